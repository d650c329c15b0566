import java.util.Arrays;

/**
 * From drawn layers back to a circuit: wires and gates are found in cells of
 * four layers and matched with a circuit as it was meant.
 */
public final class DrawnGates {
    public static final int NONE = -1, BAD = -2, NO = -3, FULL = -4;

    private static final int SIZE = 8;
    private static final int CELLS = 64;
    private static final int LAYERS = 4;
    private static final int DIFFUSION = 0, POLY = 1, METAL = 2, CUT = 3;
    // Among the layers of wires, plain cells stand in the place of diffusion.
    private static final int PLAIN = 0;
    private static final int WIRE_LAYERS = 3;
    private static final int NETS = 10;
    private static final int MOST_DEVICES = 6;
    private static final int MOST_PINS = 6;
    private static final int MOST_BYTES = 150;
    private static final int MOST_STATES = 5;
    private static final int MOST_WAYS = 9999;
    // Of 64 cells at most 32 can be drawn without one beside another.
    private static final int MOST_GATES = 32;
    private static final int MOST_PIECES = WIRE_LAYERS * 32;
    private static final long FIRST_COLUMN = 0x0101010101010101L;
    private static final long LAST_COLUMN = 0x8080808080808080L;

    private final Matching matching = new Matching();
    // Made by the matching, as a constructor may not hand on parts of what it makes.
    private final Plan plan = matching.plan;
    private final Layout layout = matching.drawn;
    private final Plan before = new Plan();
    private final Plan[] states = new Plan[MOST_STATES];
    private final Text text = new Text();
    private final int[] refusals = new int[3];
    private int stateCount = 0;
    private boolean searched = false;

    public DrawnGates() {
        for (int i = 0; i < MOST_STATES; i++) {
            states[i] = new Plan();
        }
    }

    // ---- drawing

    public int draws(int l, int x, int y, int w, int h) {
        before.take(plan);
        return settle(plan.paint(l, x, y, w, h));
    }

    public int rubs(int l, int x, int y, int w, int h) {
        before.take(plan);
        return settle(plan.erase(l, x, y, w, h));
    }

    public int moves(int l, int x, int y) {
        before.take(plan);
        return settle(plan.shift(l, x, y));
    }

    public int means(int g, int a, int b) {
        before.take(plan);
        return settle(plan.addDevice(g, a, b));
    }

    public int pins(int x, int y, int n) {
        before.take(plan);
        return settle(plan.addPin(x, y, n));
    }

    public int forgets() {
        before.take(plan);
        return settle(plan.dropMeant());
    }

    // ---- what is drawn

    public int at(int l, int x, int y) {
        if (!isWithin(l, LAYERS) || !isCell(x, y)) {
            return refuse(BAD);
        }
        return (plan.layers[l] & cellBit(x, y)) != 0 ? 1 : 0;
    }

    public int node(int l, int x, int y) {
        if (!isWithin(l, WIRE_LAYERS) || !isCell(x, y)) {
            return refuse(BAD);
        }
        return readLayout().nodeWith(l, cellBit(x, y));
    }

    public int count(int what) {
        switch (what) {
            case 0: return readLayout().nodeCount;
            case 1: return readLayout().gateCount;
            case 2: return readLayout().brokenCount;
            case 3: return readLayout().pieceCount;
            case 4: return plan.deviceCount;
            case 5: return plan.pinCount;
            case 6: return readLayout().countShorts(plan);
            case 7: return readLayout().countOpens(plan);
            case 8: return search().unlike;
            default: return refuse(BAD);
        }
    }

    public int gateAt(int x, int y) {
        if (!isCell(x, y)) {
            return refuse(BAD);
        }
        return readLayout().gateWith(cellBit(x, y));
    }

    public int gate(int i, int what) {
        Layout drawn = readLayout();
        if (!isWithin(i, drawn.gateCount) || !isWithin(what, 6)) {
            return refuse(BAD);
        }
        return drawn.tellGate(i, what);
    }

    public int wire(int n, int what) {
        Layout drawn = readLayout();
        if (!isWithin(n, drawn.nodeCount) || !isWithin(what, 2)) {
            return refuse(BAD);
        }
        return what == 0 ? drawn.sizeOf(n) : drawn.hangOf(n);
    }

    // ---- matching

    public int ways() {
        return search().found;
    }

    public int matched(int i) {
        if (!isWithin(i, plan.deviceCount)) {
            return refuse(BAD);
        }
        Matching match = search();
        return match.found == 0 ? refuse(NO) : match.firstGates[i];
    }

    public int net(int n) {
        if (!isWithin(n, NETS)) {
            return refuse(BAD);
        }
        Matching match = search();
        return match.found == 0 ? refuse(NO) : match.firstNodes[n];
    }

    public int device(int i, int what) {
        if (!isWithin(i, plan.deviceCount) || !isWithin(what, 3)) {
            return refuse(BAD);
        }
        return plan.devices[3 * i + what];
    }

    public int pin(int i, int what) {
        if (!isWithin(i, plan.pinCount) || !isWithin(what, 4)) {
            return refuse(BAD);
        }
        return what == 3 ? readLayout().pinNode(plan, i) : plan.ties[3 * i + what];
    }

    public int hangs(int n) {
        return isWithin(n, NETS) ? plan.hangOf(n) : refuse(BAD);
    }

    // ---- texts

    public int type(int c) {
        int answer = text.add(c);
        return answer < 0 ? refuse(answer) : answer;
    }

    public int clear() {
        int had = text.length;
        text.length = 0;
        return had;
    }

    public int does() {
        int fault = text.findFault();
        if (fault != NONE) {
            return -10 - fault;
        }
        before.take(plan);
        int answer = text.perform(plan);
        if (answer < 0) {
            plan.take(before);
            return answer;
        }
        return settle(answer);
    }

    public int back() {
        if (stateCount <= 0) {
            return refuse(NO);
        }
        stateCount--;
        plan.take(states[stateCount]);
        searched = false;
        return stateCount;
    }

    public int told(int what) {
        switch (what) {
            case 0: return refusals[0];
            case 1: return refusals[1];
            case 2: return refusals[2];
            case 3: return text.length;
            case 4: return stateCount;
            default: return refuse(BAD);
        }
    }

    public long digest() {
        long h = 1682;
        for (int what = 0; what <= 4; what++) {
            h = 31 * h + told(what);
        }
        for (int what = 0; what <= 8; what++) {
            h = 31 * h + count(what);
        }
        for (int l = 0; l < LAYERS; l++) {
            h = 31 * h + plan.layers[l];
        }
        return search().mixInto(readLayout().mixInto(h));
    }

    /** Ends a call told S: a refusal is counted, else the plan as it was before becomes a state. */
    private int settle(int answer) {
        if (answer < 0) {
            return refuse(answer);
        }
        keepBefore();
        searched = false;
        return answer;
    }

    private void keepBefore() {
        if (stateCount >= MOST_STATES) {
            dropOldestState();
        }
        states[stateCount].take(before);
        stateCount++;
    }

    private void dropOldestState() {
        // The oldest one's plan goes to the end, to be used again.
        Plan oldest = states[0];
        for (int i = 1; i < MOST_STATES; i++) {
            states[i - 1] = states[i];
        }
        states[MOST_STATES - 1] = oldest;
        stateCount = MOST_STATES - 1;
    }

    private int refuse(int why) {
        int kind = BAD - why;
        if (isWithin(kind, refusals.length)) {
            refusals[kind]++;
        }
        return why;
    }

    private Layout readLayout() {
        layout.refresh(plan.layers);
        return layout;
    }

    private Matching search() {
        if (!searched) {
            layout.refresh(plan.layers);
            matching.run();
            searched = true;
        }
        return matching;
    }

    private static boolean isWithin(int value, int bound) {
        return value >= 0 && value < bound;
    }

    private static boolean isCell(int x, int y) {
        return isWithin(x, SIZE) && isWithin(y, SIZE);
    }

    private static long cellBit(int x, int y) {
        return 1L << (SIZE * y + x);
    }

    /** All that a state holds: the four layers, what is meant, the pins. Its changes refuse, but don't count. */
    private static final class Plan {
        final long[] layers = new long[LAYERS];
        final int[] devices = new int[3 * MOST_DEVICES];
        final int[] ties = new int[3 * MOST_PINS];
        int deviceCount = 0;
        int pinCount = 0;

        void take(Plan other) {
            System.arraycopy(other.layers, 0, layers, 0, LAYERS);
            System.arraycopy(other.devices, 0, devices, 0, devices.length);
            System.arraycopy(other.ties, 0, ties, 0, ties.length);
            deviceCount = other.deviceCount;
            pinCount = other.pinCount;
        }

        int paint(int l, int x, int y, int w, int h) {
            if (!isWithin(l, LAYERS) || !isBox(x, y, w, h)) {
                return BAD;
            }
            long fresh = boxBits(x, y, w, h) & ~layers[l];
            layers[l] |= fresh;
            return Long.bitCount(fresh);
        }

        int erase(int l, int x, int y, int w, int h) {
            if (!isWithin(l, LAYERS) || !isBox(x, y, w, h)) {
                return BAD;
            }
            long gone = boxBits(x, y, w, h) & layers[l];
            layers[l] &= ~gone;
            return Long.bitCount(gone);
        }

        int shift(int l, int dx, int dy) {
            if (!isWithin(l, LAYERS) || !isStep(dx) || !isStep(dy)) {
                return BAD;
            }
            long moved = 0;
            for (int y = 0; y < SIZE; y++) {
                for (int x = 0; x < SIZE; x++) {
                    if ((layers[l] & cellBit(x, y)) != 0 && isCell(x + dx, y + dy)) {
                        moved |= cellBit(x + dx, y + dy);
                    }
                }
            }
            layers[l] = moved;
            return Long.bitCount(moved);
        }

        int addDevice(int g, int a, int b) {
            if (!isWithin(g, NETS) || !isWithin(a, NETS) || !isWithin(b, NETS)) {
                return BAD;
            }
            if (deviceCount >= MOST_DEVICES) {
                return FULL;
            }
            putThree(devices, deviceCount, g, a, b);
            deviceCount++;
            return deviceCount - 1;
        }

        int addPin(int x, int y, int n) {
            if (!isCell(x, y) || !isWithin(n, NETS)) {
                return BAD;
            }
            if (pinCount >= MOST_PINS) {
                return FULL;
            }
            putThree(ties, pinCount, x, y, n);
            pinCount++;
            return pinCount - 1;
        }

        int dropMeant() {
            int had = deviceCount + pinCount;
            deviceCount = 0;
            pinCount = 0;
            return had;
        }

        int gateNet(int i) {
            return devices[3 * i];
        }

        int sideA(int i) {
            return devices[3 * i + 1];
        }

        int sideB(int i) {
            return devices[3 * i + 2];
        }

        long pinBit(int i) {
            return cellBit(ties[3 * i], ties[3 * i + 1]);
        }

        int pinNet(int i) {
            return ties[3 * i + 2];
        }

        int hangOf(int n) {
            int hang = 0;
            for (int i = 0; i < deviceCount; i++) {
                hang += gateNet(i) == n ? 10 : 0;
                hang += sideA(i) == n ? 1 : 0;
                hang += sideB(i) == n ? 1 : 0;
            }
            return hang;
        }

        private static void putThree(int[] row, int i, int first, int second, int third) {
            row[3 * i] = first;
            row[3 * i + 1] = second;
            row[3 * i + 2] = third;
        }

        private static boolean isStep(int d) {
            return d > -SIZE && d < SIZE;
        }

        private static boolean isBox(int x, int y, int w, int h) {
            return isCell(x, y) && w >= 1 && w <= SIZE - x && h >= 1 && h <= SIZE - y;
        }

        private static long boxBits(int x, int y, int w, int h) {
            long row = ((1L << w) - 1) << x;
            long box = 0;
            for (int i = y; i < y + h; i++) {
                box |= row << (SIZE * i);
            }
            return box;
        }
    }

    /** What the layers come to: pieces, nodes, gates. Sets of cells are bits, cell n bit n. */
    private static final class Layout {
        private final long[] layers = new long[LAYERS];
        private final long[] pieces = new long[MOST_PIECES];
        private final int[] pieceLayer = new int[MOST_PIECES];
        private final int[] leastJoined = new int[MOST_PIECES];
        private final int[] pieceNode = new int[MOST_PIECES];
        private final long[][] wires = new long[WIRE_LAYERS][MOST_PIECES];
        private final int[] nodeHang = new int[MOST_PIECES];
        private final long[] gateCells = new long[MOST_GATES];
        final int[] gateNode = new int[MOST_GATES];
        final int[] gateA = new int[MOST_GATES];
        final int[] gateB = new int[MOST_GATES];
        private final int[] gateSides = new int[MOST_GATES];
        int pieceCount = 0;
        int nodeCount = 0;
        int gateCount = 0;
        int brokenCount = 0;

        void refresh(long[] now) {
            if (isAsRead(now)) {
                return;
            }
            System.arraycopy(now, 0, layers, 0, LAYERS);
            findPieces();
            joinPieces();
            numberNodes();
            findGates();
            weighNodes();
        }

        int nodeWith(int layer, long cells) {
            for (int n = 0; n < nodeCount; n++) {
                if ((wires[layer][n] & cells) != 0) {
                    return n;
                }
            }
            return NONE;
        }

        int gateWith(long cells) {
            for (int i = 0; i < gateCount; i++) {
                if ((gateCells[i] & cells) != 0) {
                    return i;
                }
            }
            return NONE;
        }

        int pinNode(Plan plan, int i) {
            return nodeWith(METAL, plan.pinBit(i));
        }

        int countShorts(Plan plan) {
            int shorts = 0;
            for (int i = 1; i < plan.pinCount; i++) {
                int here = pinNode(plan, i);
                for (int j = 0; j < i && here != NONE; j++) {
                    if (here == pinNode(plan, j) && plan.pinNet(i) != plan.pinNet(j)) {
                        shorts++;
                    }
                }
            }
            return shorts;
        }

        int countOpens(Plan plan) {
            int opens = 0;
            for (int i = 1; i < plan.pinCount; i++) {
                int here = pinNode(plan, i);
                for (int j = 0; j < i && here != NONE; j++) {
                    int there = pinNode(plan, j);
                    if (there != NONE && there != here && plan.pinNet(i) == plan.pinNet(j)) {
                        opens++;
                    }
                }
            }
            return opens;
        }

        int tellGate(int i, int what) {
            switch (what) {
                case 0: return gateNode[i];
                case 1: return gateA[i];
                case 2: return gateB[i];
                case 3: return Long.bitCount(gateCells[i]);
                case 4: return gateSides[i];
                default: return Long.numberOfTrailingZeros(gateCells[i]);
            }
        }

        /** The digest so far, with all gates and nodes. */
        long mixInto(long start) {
            long h = start;
            for (int i = 0; i < gateCount; i++) {
                for (int what = 0; what <= 5; what++) {
                    h = 31 * h + tellGate(i, what);
                }
            }
            for (int n = 0; n < nodeCount; n++) {
                h = 31 * h + sizeOf(n);
                h = 31 * h + hangOf(n);
            }
            return h;
        }

        int sizeOf(int n) {
            int size = 0;
            for (int l = 0; l < WIRE_LAYERS; l++) {
                size += Long.bitCount(wires[l][n]);
            }
            return size;
        }

        int hangOf(int n) {
            return isWithin(n, nodeCount) ? nodeHang[n] : 0;
        }

        boolean isWell(int i) {
            return gateSides[i] == 1 || gateSides[i] == 2;
        }

        private boolean isAsRead(long[] now) {
            for (int l = 0; l < LAYERS; l++) {
                if (layers[l] != now[l]) {
                    return false;
                }
            }
            return true;
        }

        private long cellsOf(int layer) {
            return layer == PLAIN ? layers[DIFFUSION] & ~layers[POLY] : layers[layer];
        }

        // Pieces come by layer and least cell, so a node's least piece is its least of all.
        private void findPieces() {
            pieceCount = 0;
            for (int l = 0; l < WIRE_LAYERS; l++) {
                long left = cellsOf(l);
                for (int k = 0; k < CELLS && left != 0 && pieceCount < MOST_PIECES; k++) {
                    long piece = hangingTogether(left);
                    pieces[pieceCount] = piece;
                    pieceLayer[pieceCount] = l;
                    pieceCount++;
                    left &= ~piece;
                }
            }
        }

        private void joinPieces() {
            for (int p = 0; p < pieceCount; p++) {
                leastJoined[p] = p;
            }
            for (int upper = 0; upper < pieceCount; upper++) {
                if (pieceLayer[upper] == METAL) {
                    joinBelow(upper);
                }
            }
        }

        private void joinBelow(int upper) {
            long through = pieces[upper] & layers[CUT];
            for (int lower = 0; lower < upper && through != 0; lower++) {
                if (pieceLayer[lower] != METAL && (pieces[lower] & through) != 0) {
                    join(leastJoined[lower], leastJoined[upper]);
                }
            }
        }

        private void join(int one, int other) {
            int least = Math.min(one, other);
            int most = Math.max(one, other);
            for (int p = 0; p < pieceCount; p++) {
                if (leastJoined[p] == most) {
                    leastJoined[p] = least;
                }
            }
        }

        private void numberNodes() {
            nodeCount = 0;
            for (int p = 0; p < pieceCount; p++) {
                int least = leastJoined[p];
                if (least == p) {
                    openNode();
                    pieceNode[p] = nodeCount - 1;
                } else {
                    pieceNode[p] = pieceNode[least];
                }
                wires[pieceLayer[p]][pieceNode[p]] |= pieces[p];
            }
        }

        private void openNode() {
            for (int l = 0; l < WIRE_LAYERS; l++) {
                wires[l][nodeCount] = 0;
            }
            nodeCount++;
        }

        private void findGates() {
            gateCount = 0;
            brokenCount = 0;
            long left = layers[DIFFUSION] & layers[POLY];
            for (int k = 0; k < CELLS && left != 0 && gateCount < MOST_GATES; k++) {
                long cells = hangingTogether(left);
                gateCells[gateCount] = cells;
                gateNode[gateCount] = nodeWith(POLY, cells);
                findSides(gateCount);
                gateCount++;
                left &= ~cells;
            }
        }

        private void findSides(int i) {
            long around = besideOf(gateCells[i]);
            int sides = 0;
            int least = NONE;
            int most = NONE;
            for (int n = 0; n < nodeCount; n++) {
                if ((wires[PLAIN][n] & around) != 0) {
                    least = sides == 0 ? n : least;
                    most = n;
                    sides++;
                }
            }
            gateSides[i] = sides;
            boolean well = isWell(i);
            gateA[i] = well ? least : NONE;
            gateB[i] = well ? most : NONE;
            brokenCount += well ? 0 : 1;
        }

        private void weighNodes() {
            Arrays.fill(nodeHang, 0);
            for (int i = 0; i < gateCount; i++) {
                if (isWell(i)) {
                    addHang(gateNode[i], 10);
                    addHang(gateA[i], 1);
                    addHang(gateB[i], 1);
                }
            }
        }

        private void addHang(int n, int weight) {
            if (isWithin(n, nodeCount)) {
                nodeHang[n] += weight;
            }
        }

        /** Those of the cells that hang together with the least of them. */
        private static long hangingTogether(long cells) {
            long piece = cells & -cells;
            for (int step = 0; step < CELLS; step++) {
                long wider = (piece | besideOf(piece)) & cells;
                if (wider == piece) {
                    return piece;
                }
                piece = wider;
            }
            return piece;
        }

        private static long besideOf(long cells) {
            long right = (cells & ~LAST_COLUMN) << 1;
            long left = (cells & ~FIRST_COLUMN) >>> 1;
            return right | left | cells << SIZE | cells >>> SIZE;
        }
    }

    /** The plan as it stands, what is drawn in it, all matches of its devices with the gates, and the first of them. */
    private static final class Matching {
        final Plan plan = new Plan();
        final Layout drawn = new Layout();
        // Of each device the gates that are like it, gate i bit i.
        private final int[] likes = new int[MOST_DEVICES];
        private final int[] gateOf = new int[MOST_DEVICES];
        // The nodes of all nets, a row for each step of the search: so no step has to be undone.
        private final int[][] nodesOf = new int[2 * MOST_DEVICES + 1][NETS];
        private int taken = 0;
        final int[] firstGates = new int[MOST_DEVICES];
        final int[] firstNodes = new int[NETS];
        int found = 0;
        int unlike = 0;

        void run() {
            found = 0;
            taken = 0;
            findLikes();
            unlike = countLeftOver();
            // In a match each net hangs as its node does: all are paired with what is like them.
            if (unlike != 0 || drawn.brokenCount != 0) {
                return;
            }
            Arrays.fill(nodesOf[0], NONE);
            if (tiePins(nodesOf[0])) {
                place(this, 0);
            }
        }

        /** The digest so far, with the ways and, if there is a match, the first. */
        long mixInto(long start) {
            long h = 31 * start + found;
            if (found == 0) {
                return h;
            }
            for (int d = 0; d < plan.deviceCount; d++) {
                h = 31 * h + firstGates[d];
            }
            for (int n = 0; n < NETS; n++) {
                h = 31 * h + firstNodes[n];
            }
            return h;
        }

        private void findLikes() {
            for (int d = 0; d < plan.deviceCount; d++) {
                likes[d] = 0;
                for (int g = 0; g < drawn.gateCount; g++) {
                    if (drawn.isWell(g) && isLike(d, g)) {
                        likes[d] |= 1 << g;
                    }
                }
            }
        }

        private boolean isLike(int d, int g) {
            if (plan.hangOf(plan.gateNet(d)) != drawn.hangOf(drawn.gateNode[g])) {
                return false;
            }
            int a = plan.hangOf(plan.sideA(d));
            int b = plan.hangOf(plan.sideB(d));
            int nodeA = drawn.hangOf(drawn.gateA[g]);
            int nodeB = drawn.hangOf(drawn.gateB[g]);
            return (a == nodeA && b == nodeB) || (a == nodeB && b == nodeA);
        }

        // Two devices are like the same gates or share none, so any choice pairs as many as can be.
        private int countLeftOver() {
            int paired = 0;
            int pairs = 0;
            for (int d = 0; d < plan.deviceCount; d++) {
                int free = likes[d] & ~paired;
                if (free != 0) {
                    paired |= free & -free;
                    pairs++;
                }
            }
            int wellGates = drawn.gateCount - drawn.brokenCount;
            return plan.deviceCount + wellGates - 2 * pairs;
        }

        private boolean tiePins(int[] nodes) {
            for (int i = 0; i < plan.pinCount; i++) {
                int node = drawn.pinNode(plan, i);
                if (node != NONE && !tie(nodes, plan.pinNet(i), node)) {
                    return false;
                }
            }
            return true;
        }

        /** Gives device d, and all behind it, each gate that it can have, least gates first. */
        private static void place(Matching m, int d) {
            if (d >= m.plan.deviceCount || d >= MOST_DEVICES) {
                turn(m, 0);
                return;
            }
            int[] nodes = m.nodesOf[d + 1];
            for (int g = 0; g < m.drawn.gateCount && m.found < MOST_WAYS; g++) {
                int bit = 1 << g;
                if ((m.likes[d] & ~m.taken & bit) == 0) {
                    continue;
                }
                System.arraycopy(m.nodesOf[d], 0, nodes, 0, NETS);
                if (tie(nodes, m.plan.gateNet(d), m.drawn.gateNode[g])) {
                    m.gateOf[d] = g;
                    m.taken |= bit;
                    place(m, d + 1);
                    m.taken &= ~bit;
                }
            }
        }

        /** Turns device d, and all behind it, either way round, the gates being given. */
        private static void turn(Matching m, int d) {
            if (d >= m.plan.deviceCount || d >= MOST_DEVICES) {
                m.record(m.nodesOf[m.plan.deviceCount + d]);
                return;
            }
            int nodeA = m.drawn.gateA[m.gateOf[d]];
            int nodeB = m.drawn.gateB[m.gateOf[d]];
            if (m.tieSides(d, nodeA, nodeB)) {
                turn(m, d + 1);
            }
            if (nodeA != nodeB && m.tieSides(d, nodeB, nodeA)) {
                turn(m, d + 1);
            }
        }

        private boolean tieSides(int d, int nodeOfA, int nodeOfB) {
            int row = plan.deviceCount + d;
            int[] nodes = nodesOf[row + 1];
            System.arraycopy(nodesOf[row], 0, nodes, 0, NETS);
            return tie(nodes, plan.sideA(d), nodeOfA) && tie(nodes, plan.sideB(d), nodeOfB);
        }

        /** Whether the net can have the node; it then has it. */
        private static boolean tie(int[] nodes, int net, int node) {
            if (nodes[net] != NONE) {
                return nodes[net] == node;
            }
            for (int n = 0; n < NETS; n++) {
                if (nodes[n] == node) {
                    return false;
                }
            }
            nodes[net] = node;
            return true;
        }

        private void record(int[] nodes) {
            if (found == 0 || isBeforeFirst(nodes)) {
                System.arraycopy(gateOf, 0, firstGates, 0, MOST_DEVICES);
                System.arraycopy(nodes, 0, firstNodes, 0, NETS);
            }
            found = Math.min(found + 1, MOST_WAYS);
        }

        private boolean isBeforeFirst(int[] nodes) {
            for (int d = 0; d < plan.deviceCount; d++) {
                if (gateOf[d] != firstGates[d]) {
                    return gateOf[d] < firstGates[d];
                }
            }
            for (int n = 0; n < NETS; n++) {
                if (nodes[n] != firstNodes[n]) {
                    return nodes[n] < firstNodes[n];
                }
            }
            return false;
        }
    }

    /** The text, and its reading as orders. */
    private static final class Text {
        private static final int BLANK = 32;
        private static final int OUTSIDE = -1;
        private static final int MOST_FIGURES = 5;
        private final byte[] bytes = new byte[MOST_BYTES];
        private final int[] figures = new int[MOST_FIGURES];
        int length = 0;

        int add(int c) {
            if (c < 0 || c > 127) {
                return BAD;
            }
            if (length >= MOST_BYTES) {
                return FULL;
            }
            bytes[length] = (byte) c;
            length++;
            return length;
        }

        /** The place of the first byte that can not stand there, NONE if all can. */
        int findFault() {
            int missing = OUTSIDE;
            int orders = 0;
            for (int i = 0; i < length; i++) {
                int c = bytes[i];
                if (c == BLANK) {
                    continue;
                }
                if (!canStand(c, missing)) {
                    return i;
                }
                if (missing == OUTSIDE) {
                    missing = figuresOf(c);
                } else {
                    orders += missing == 0 ? 1 : 0;
                    // Behind the last figure 0 are missing, behind the ; it is OUTSIDE again.
                    missing--;
                }
            }
            return missing == OUTSIDE && orders > 0 ? NONE : length;
        }

        /** Does all orders of a text without fault: how many, or -1000 less the number of the refused one. */
        int perform(Plan plan) {
            int orders = 0;
            int given = 0;
            int letter = BLANK;
            for (int i = 0; i < length; i++) {
                int c = bytes[i];
                if (c == ';') {
                    if (performOne(plan, letter) < 0) {
                        return -1000 - orders;
                    }
                    orders++;
                } else if (c >= '0' && c <= '9' && given < MOST_FIGURES) {
                    figures[given] = c - '0';
                    given++;
                } else if (c != BLANK) {
                    letter = c;
                    given = 0;
                }
            }
            return orders;
        }

        private int performOne(Plan plan, int letter) {
            int[] f = figures;
            switch (letter) {
                case 'd': return plan.paint(f[0], f[1], f[2], f[3], f[4]);
                case 'r': return plan.erase(f[0], f[1], f[2], f[3], f[4]);
                case 'm': return plan.addDevice(f[0], f[1], f[2]);
                case 'p': return plan.addPin(f[0], f[1], f[2]);
                case 'f': return plan.dropMeant();
                default: return BAD;
            }
        }

        /** Whether the byte can stand where an order misses so many figures yet. */
        private static boolean canStand(int c, int missing) {
            if (missing == OUTSIDE) {
                return figuresOf(c) != NONE;
            }
            return missing == 0 ? c == ';' : c >= '0' && c <= '9';
        }

        private static int figuresOf(int letter) {
            switch (letter) {
                case 'd':
                case 'r': return 5;
                case 'm':
                case 'p': return 3;
                case 'f': return 0;
                default: return NONE;
            }
        }
    }
}
