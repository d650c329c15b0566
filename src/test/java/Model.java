import java.util.ArrayDeque;
import java.util.ArrayList;
import java.util.Arrays;
import java.util.Deque;
import java.util.HashSet;
import java.util.List;
import java.util.Set;
import java.util.TreeSet;
import java.util.regex.Matcher;
import java.util.regex.Pattern;

/** The document told a second time, plainly and slowly, to compare with. */
final class Model {
    static final int NONE = -1, BAD = -2, NO = -3, FULL = -4;
    private static final Pattern ORDERS =
        Pattern.compile("(?: *[dr](?: *[0-9]){5} *;| *[mp](?: *[0-9]){3} *;| *f *;)+ *");

    private boolean[][] drawn = new boolean[4][64];
    private List<int[]> devices = new ArrayList<>();
    private List<int[]> pinned = new ArrayList<>();
    private final StringBuilder text = new StringBuilder();
    private final int[] refused = new int[3];
    private final Deque<Object[]> states = new ArrayDeque<>();

    // what the drawing comes to, found anew when asked after a change
    private boolean known = false;
    private int pieceCount;
    private int nodeCount;
    private final int[] nodeAt = new int[192];
    private final List<Set<Integer>> gates = new ArrayList<>();
    private final List<List<Integer>> sides = new ArrayList<>();
    private final List<int[]> matches = new ArrayList<>();

    int change(char kind, int... v) {
        Object[] before = state();
        int answer = apply(kind, v);
        if (answer < 0) {
            return refuse(answer);
        }
        keep(before);
        return answer;
    }

    private Object[] state() {
        boolean[][] cells = new boolean[4][];
        for (int l = 0; l < 4; l++) {
            cells[l] = drawn[l].clone();
        }
        return new Object[] {cells, new ArrayList<>(devices), new ArrayList<>(pinned)};
    }

    private void keep(Object[] before) {
        states.addLast(before);
        if (states.size() > 5) {
            states.removeFirst();
        }
        known = false;
    }

    @SuppressWarnings("unchecked")
    private void restore(Object[] state) {
        drawn = (boolean[][]) state[0];
        devices = (List<int[]>) state[1];
        pinned = (List<int[]>) state[2];
        known = false;
    }

    private int refuse(int why) {
        refused[-why - 2]++;
        return why;
    }

    private static boolean in(long v, long least, long most) {
        return v >= least && v <= most;
    }

    private int apply(char kind, int[] v) {
        switch (kind) {
            case 'd':
            case 'r': return box(kind == 'd', v);
            case 'v': return move(v[0], v[1], v[2]);
            case 'm':
                if (!in(v[0], 0, 9) || !in(v[1], 0, 9) || !in(v[2], 0, 9)) {
                    return BAD;
                }
                return add(devices, v);
            case 'p':
                if (!in(v[0], 0, 7) || !in(v[1], 0, 7) || !in(v[2], 0, 9)) {
                    return BAD;
                }
                return add(pinned, v);
            default:
                int had = devices.size() + pinned.size();
                devices.clear();
                pinned.clear();
                return had;
        }
    }

    private static int add(List<int[]> list, int[] v) {
        if (list.size() == 6) {
            return FULL;
        }
        list.add(v.clone());
        return list.size() - 1;
    }

    private int box(boolean to, int[] v) {
        if (!in(v[0], 0, 3) || !in(v[1], 0, 7) || !in(v[2], 0, 7) || !in(v[3], 1, 8) || !in(v[4], 1, 8)
            || v[1] + v[3] > 8 || v[2] + v[4] > 8) {
            return BAD;
        }
        int changed = 0;
        for (int x = v[1]; x < v[1] + v[3]; x++) {
            for (int y = v[2]; y < v[2] + v[4]; y++) {
                changed += drawn[v[0]][8 * y + x] != to ? 1 : 0;
                drawn[v[0]][8 * y + x] = to;
            }
        }
        return changed;
    }

    private int move(int l, int dx, int dy) {
        if (!in(l, 0, 3) || !in(dx, -7, 7) || !in(dy, -7, 7)) {
            return BAD;
        }
        boolean[] moved = new boolean[64];
        int left = 0;
        for (int x = 0; x < 8; x++) {
            for (int y = 0; y < 8; y++) {
                int fromX = x - dx;
                int fromY = y - dy;
                if (in(fromX, 0, 7) && in(fromY, 0, 7) && drawn[l][8 * fromY + fromX]) {
                    moved[8 * y + x] = true;
                    left++;
                }
            }
        }
        drawn[l] = moved;
        return left;
    }

    // ---- what is drawn

    int at(int l, int x, int y) {
        if (!in(l, 0, 3) || !in(x, 0, 7) || !in(y, 0, 7)) {
            return refuse(BAD);
        }
        return drawn[l][8 * y + x] ? 1 : 0;
    }

    private boolean isWire(int place) {
        int c = place % 64;
        switch (place / 64) {
            case 0: return drawn[0][c] && !drawn[1][c];
            case 1: return drawn[1][c];
            default: return drawn[2][c];
        }
    }

    private static List<Integer> beside(int c) {
        List<Integer> list = new ArrayList<>();
        if (c % 8 > 0) {
            list.add(c - 1);
        }
        if (c % 8 < 7) {
            list.add(c + 1);
        }
        if (c >= 8) {
            list.add(c - 8);
        }
        if (c < 56) {
            list.add(c + 8);
        }
        return list;
    }

    private void know() {
        if (known) {
            return;
        }
        known = true;
        pieceCount = label(false);
        nodeCount = label(true);
        findGates();
        findMatches();
    }

    /** Floods from each place not yet reached; through cuts as well, if asked: how many floods. */
    private int label(boolean cuts) {
        Arrays.fill(nodeAt, NONE);
        int labels = 0;
        for (int start = 0; start < 192; start++) {
            if (!isWire(start) || nodeAt[start] != NONE) {
                continue;
            }
            Deque<Integer> open = new ArrayDeque<>(List.of(start));
            nodeAt[start] = labels;
            while (!open.isEmpty()) {
                for (int next : nextTo(open.removeFirst(), cuts)) {
                    if (nodeAt[next] == NONE) {
                        nodeAt[next] = labels;
                        open.addLast(next);
                    }
                }
            }
            labels++;
        }
        return labels;
    }

    private List<Integer> nextTo(int place, boolean cuts) {
        List<Integer> list = new ArrayList<>();
        int layer = place / 64;
        int c = place % 64;
        for (int d : beside(c)) {
            if (isWire(64 * layer + d)) {
                list.add(64 * layer + d);
            }
        }
        if (cuts && drawn[3][c] && drawn[2][c]) {
            for (int other = 0; other < 3; other++) {
                if (isWire(64 * other + c)) {
                    list.add(64 * other + c);
                }
            }
        }
        return list;
    }

    private void findGates() {
        gates.clear();
        sides.clear();
        Set<Integer> seen = new HashSet<>();
        for (int c = 0; c < 64; c++) {
            if (drawn[0][c] && drawn[1][c] && !seen.contains(c)) {
                Set<Integer> cells = new TreeSet<>();
                Set<Integer> around = new TreeSet<>();
                flood(c, cells, around);
                seen.addAll(cells);
                gates.add(cells);
                sides.add(new ArrayList<>(around));
            }
        }
    }

    private void flood(int c, Set<Integer> cells, Set<Integer> around) {
        if (!cells.add(c)) {
            return;
        }
        for (int d : beside(c)) {
            if (drawn[0][d] && drawn[1][d]) {
                flood(d, cells, around);
            } else if (drawn[0][d]) {
                around.add(nodeAt[d]);
            }
        }
    }

    private boolean well(int g) {
        return in(sides.get(g).size(), 1, 2);
    }

    int node(int l, int x, int y) {
        if (!in(l, 0, 2) || !in(x, 0, 7) || !in(y, 0, 7)) {
            return refuse(BAD);
        }
        know();
        return nodeAt[64 * l + 8 * y + x];
    }

    int count(int what) {
        know();
        int n = 0;
        switch (what) {
            case 0: return nodeCount;
            case 1: return gates.size();
            case 2:
                for (int g = 0; g < gates.size(); g++) {
                    n += well(g) ? 0 : 1;
                }
                return n;
            case 3: return pieceCount;
            case 4: return devices.size();
            case 5: return pinned.size();
            case 6:
            case 7:
                for (int[] p : pinned) {
                    for (int[] q : pinned) {
                        boolean both = pinNode(p) != NONE && pinNode(q) != NONE;
                        boolean oneNode = pinNode(p) == pinNode(q);
                        boolean oneNet = p[2] == q[2];
                        n += both && oneNode != oneNet && oneNode == (what == 6) ? 1 : 0;
                    }
                }
                return n / 2;
            case 8: return unlike();
            default: return refuse(BAD);
        }
    }

    int gateAt(int x, int y) {
        if (!in(x, 0, 7) || !in(y, 0, 7)) {
            return refuse(BAD);
        }
        know();
        for (int g = 0; g < gates.size(); g++) {
            if (gates.get(g).contains(8 * y + x)) {
                return g;
            }
        }
        return NONE;
    }

    private int gateInfo(int g, int what) {
        int least = gates.get(g).iterator().next();
        List<Integer> s = sides.get(g);
        switch (what) {
            case 0: return nodeAt[64 + least];
            case 1: return well(g) ? s.get(0) : NONE;
            case 2: return well(g) ? s.get(s.size() - 1) : NONE;
            case 3: return gates.get(g).size();
            case 4: return s.size();
            default: return least;
        }
    }

    int gate(int i, int what) {
        know();
        return in(i, 0, gates.size() - 1) && in(what, 0, 5) ? gateInfo(i, what) : refuse(BAD);
    }

    private int nodeHang(int n) {
        int hang = 0;
        for (int g = 0; g < gates.size(); g++) {
            if (well(g)) {
                hang += (gateInfo(g, 0) == n ? 10 : 0) + (gateInfo(g, 1) == n ? 1 : 0) + (gateInfo(g, 2) == n ? 1 : 0);
            }
        }
        return hang;
    }

    int wire(int n, int what) {
        know();
        if (!in(n, 0, nodeCount - 1) || !in(what, 0, 1)) {
            return refuse(BAD);
        }
        if (what == 1) {
            return nodeHang(n);
        }
        int cells = 0;
        for (int v : nodeAt) {
            cells += v == n ? 1 : 0;
        }
        return cells;
    }

    // ---- matching

    private int netHang(int n) {
        int hang = 0;
        for (int[] d : devices) {
            hang += (d[0] == n ? 10 : 0) + (d[1] == n ? 1 : 0) + (d[2] == n ? 1 : 0);
        }
        return hang;
    }

    private static String kind(int gate, int a, int b) {
        return gate + "/" + Math.min(a, b) + "/" + Math.max(a, b);
    }

    private int unlike() {
        List<String> left = new ArrayList<>();
        for (int g = 0; g < gates.size(); g++) {
            if (well(g)) {
                left.add(kind(nodeHang(gateInfo(g, 0)), nodeHang(gateInfo(g, 1)), nodeHang(gateInfo(g, 2))));
            }
        }
        int alone = 0;
        for (int[] d : devices) {
            alone += left.remove(kind(netHang(d[0]), netHang(d[1]), netHang(d[2]))) ? 0 : 1;
        }
        return alone + left.size();
    }

    private int pinNode(int[] p) {
        return nodeAt[128 + 8 * p[1] + p[0]];
    }

    /** All matches, each as the gates of devices and the nodes of ten nets behind them. */
    private void findMatches() {
        matches.clear();
        if (devices.size() != gates.size()) {
            return;
        }
        for (int g = 0; g < gates.size(); g++) {
            if (!well(g)) {
                return;
            }
        }
        permute(new ArrayList<>());
        matches.sort(Arrays::compare);
        for (int i = 1; i < matches.size(); i++) {
            if (Arrays.equals(matches.get(i - 1), matches.get(i))) {
                throw new IllegalStateException("a match twice");
            }
        }
    }

    private void permute(List<Integer> gatesOf) {
        if (gatesOf.size() == devices.size()) {
            for (int turns = 0; turns < 1 << devices.size(); turns++) {
                tryMatch(gatesOf, turns);
            }
            return;
        }
        for (int g = 0; g < gates.size(); g++) {
            if (!gatesOf.contains(g)) {
                gatesOf.add(g);
                permute(gatesOf);
                gatesOf.remove(gatesOf.size() - 1);
            }
        }
    }

    private void tryMatch(List<Integer> gatesOf, int turns) {
        int n = devices.size();
        int[] match = new int[n + 10];
        Arrays.fill(match, NONE);
        boolean fits = true;
        for (int i = 0; i < n && fits; i++) {
            int g = gatesOf.get(i);
            match[i] = g;
            boolean turned = (turns >> i & 1) == 1;
            if (turned && gateInfo(g, 1) == gateInfo(g, 2)) {
                return;
            }
            int[] d = devices.get(i);
            fits = put(match, n + d[0], gateInfo(g, 0)) && put(match, n + d[1], gateInfo(g, turned ? 2 : 1))
                && put(match, n + d[2], gateInfo(g, turned ? 1 : 2));
        }
        for (int[] p : pinned) {
            fits = fits && (pinNode(p) == NONE || put(match, n + p[2], pinNode(p)));
        }
        Set<Integer> used = new HashSet<>();
        for (int i = n; i < n + 10; i++) {
            fits = fits && (match[i] == NONE || used.add(match[i]));
        }
        if (fits) {
            matches.add(match);
        }
    }

    private static boolean put(int[] match, int where, int node) {
        if (match[where] != NONE && match[where] != node) {
            return false;
        }
        match[where] = node;
        return true;
    }

    int ways() {
        know();
        return Math.min(matches.size(), 9999);
    }

    int matched(int i) {
        know();
        if (!in(i, 0, devices.size() - 1)) {
            return refuse(BAD);
        }
        return matches.isEmpty() ? refuse(NO) : matches.get(0)[i];
    }

    int net(int n) {
        know();
        if (!in(n, 0, 9)) {
            return refuse(BAD);
        }
        return matches.isEmpty() ? refuse(NO) : matches.get(0)[devices.size() + n];
    }

    int device(int i, int what) {
        return in(i, 0, devices.size() - 1) && in(what, 0, 2) ? devices.get(i)[what] : refuse(BAD);
    }

    int pin(int i, int what) {
        know();
        if (!in(i, 0, pinned.size() - 1) || !in(what, 0, 3)) {
            return refuse(BAD);
        }
        return what == 3 ? pinNode(pinned.get(i)) : pinned.get(i)[what];
    }

    int hangs(int n) {
        return in(n, 0, 9) ? netHang(n) : refuse(BAD);
    }

    // ---- texts

    int type(int c) {
        if (!in(c, 0, 127)) {
            return refuse(BAD);
        }
        if (text.length() == 150) {
            return refuse(FULL);
        }
        text.append((char) c);
        return text.length();
    }

    int clear() {
        int had = text.length();
        text.setLength(0);
        return had;
    }

    private int fault() {
        for (int i = 1; i <= text.length(); i++) {
            Matcher m = ORDERS.matcher(text.substring(0, i));
            if (!m.matches() && !m.hitEnd()) {
                return i - 1;
            }
        }
        return ORDERS.matcher(text).matches() ? NONE : text.length();
    }

    int does() {
        int fault = fault();
        if (fault != NONE) {
            return -10 - fault;
        }
        Object[] before = state();
        String[] orders = text.toString().replace(" ", "").split(";");
        for (int k = 0; k < orders.length; k++) {
            int[] v = new int[orders[k].length() - 1];
            for (int i = 0; i < v.length; i++) {
                v[i] = orders[k].charAt(i + 1) - '0';
            }
            if (apply(orders[k].charAt(0), v) < 0) {
                restore(before);
                return -1000 - k;
            }
        }
        keep(before);
        return orders.length;
    }

    int back() {
        if (states.isEmpty()) {
            return refuse(NO);
        }
        restore(states.removeLast());
        return states.size();
    }

    int told(int what) {
        switch (what) {
            case 0:
            case 1:
            case 2: return refused[what];
            case 3: return text.length();
            case 4: return states.size();
            default: return refuse(BAD);
        }
    }

    long digest() {
        List<Long> all = new ArrayList<>();
        for (int what = 0; what < 5; what++) {
            all.add((long) told(what));
        }
        for (int what = 0; what < 9; what++) {
            all.add((long) count(what));
        }
        for (boolean[] layer : drawn) {
            long cells = 0;
            for (int c = 63; c >= 0; c--) {
                cells = 2 * cells + (layer[c] ? 1 : 0);
            }
            all.add(cells);
        }
        for (int g = 0; g < gates.size(); g++) {
            for (int what = 0; what < 6; what++) {
                all.add((long) gate(g, what));
            }
        }
        for (int n = 0; n < nodeCount; n++) {
            all.add((long) wire(n, 0));
            all.add((long) wire(n, 1));
        }
        all.add((long) ways());
        if (!matches.isEmpty()) {
            for (int v : matches.get(0)) {
                all.add((long) v);
            }
        }
        long h = 1682;
        for (long v : all) {
            h = 31 * h + v;
        }
        return h;
    }
}
