import java.util.ArrayList;
import java.util.Collections;
import java.util.List;
import java.util.Random;

/** Long runs of calls, chosen by a fixed seed, answered alike by the class and by the model. */
public final class ModelTest {
    private static final int RUNS = 600;
    // Nothing is promised of an object's later calls.
    private static final int MOST_CALLS = 512;
    private static final Due due = new Due("model");
    private static int matchesSeen = 0;
    private static int mostWays = 0;

    private final Random random;
    private final DrawnGates x = new DrawnGates();
    private final Model m = new Model();
    private final String run;
    private int calls = 0;

    private ModelTest(int seed) {
        random = new Random(seed);
        run = "run " + seed + " ";
    }

    public static void main(String[] args) {
        for (int seed = 0; seed < RUNS; seed++) {
            new ModelTest(seed).play(seed);
        }
        System.out.println("model: " + matchesSeen + " digests with a match, " + mostWays + " ways at most");
        due.is("matches were seen often enough", matchesSeen > 500 ? 1 : 0, 1);
        due.is("and many ways", mostWays >= 48 ? 1 : 0, 1);
        due.end();
    }

    private void play(int seed) {
        while (calls < MOST_CALLS - 1) {
            switch (seed % 4) {
                case 0: anyCall(); break;
                case 1: drawnAndMeant(); break;
                case 2: rowsOfGates(); break;
                default: texts(); break;
            }
            if (random.nextInt(8) == 0) {
                digest();
            }
        }
        digest();
    }

    private int upTo(int most) {
        return random.nextInt(most + 1);
    }

    /** Mostly a number of the range, at times one beside it or far away. */
    private int some(int least, int most) {
        switch (random.nextInt(60)) {
            case 0: return least - 1;
            case 1: return most + 1;
            case 2: return random.nextInt();
            case 3: return random.nextBoolean() ? Integer.MIN_VALUE : Integer.MAX_VALUE;
            default: return least + upTo(most - least);
        }
    }

    private void is(String call, long got, long want) {
        calls++;
        if (calls <= MOST_CALLS) {
            due.is(run + call, got, want);
        }
    }

    private void digest() {
        is("digest", x.digest(), m.digest());
        if (m.ways() > 0 && m.count(1) > 0) {
            matchesSeen++;
            mostWays = Math.max(mostWays, m.ways());
        }
    }

    private void change(char kind, int... v) {
        int got;
        switch (kind) {
            case 'd': got = x.draws(v[0], v[1], v[2], v[3], v[4]); break;
            case 'r': got = x.rubs(v[0], v[1], v[2], v[3], v[4]); break;
            case 'v': got = x.moves(v[0], v[1], v[2]); break;
            case 'm': got = x.means(v[0], v[1], v[2]); break;
            case 'p': got = x.pins(v[0], v[1], v[2]); break;
            default: got = x.forgets(); break;
        }
        is("change " + kind + " " + java.util.Arrays.toString(v), got, m.change(kind, v));
    }

    private void anyCall() {
        switch (random.nextInt(10)) {
            case 0:
            case 1: box('d'); break;
            case 2: box('r'); break;
            case 3: change('v', some(0, 3), some(-2, 2), some(-2, 2)); break;
            case 4: change('m', some(0, 9), some(0, 9), some(0, 9)); break;
            case 5: change('p', some(0, 7), some(0, 7), some(0, 9)); break;
            case 6:
                if (random.nextInt(5) == 0) {
                    change('f');
                }
                break;
            case 7: is("back", x.back(), m.back()); break;
            default: ask(); break;
        }
    }

    private void box(char kind) {
        int w = random.nextInt(3) == 0 ? some(1, 8) : some(1, 2);
        int h = random.nextInt(3) == 0 ? some(1, 8) : some(1, 2);
        change(kind, some(0, 3), some(0, 7), some(0, 7), w, h);
    }

    private void ask() {
        int a = some(0, 9);
        int b = some(0, 7);
        int c = some(0, 7);
        switch (random.nextInt(13)) {
            case 0: is("at", x.at(c - 2, a, b), m.at(c - 2, a, b)); break;
            case 1: is("node", x.node(c % 4, a, b), m.node(c % 4, a, b)); break;
            case 2: is("count " + a, x.count(a), m.count(a)); break;
            case 3: is("gateAt", x.gateAt(a, b), m.gateAt(a, b)); break;
            case 4: is("gate", x.gate(a, b), m.gate(a, b)); break;
            case 5: is("wire", x.wire(a, b / 3), m.wire(a, b / 3)); break;
            case 6: is("ways", x.ways(), m.ways()); break;
            case 7: is("matched", x.matched(b), m.matched(b)); break;
            case 8: is("net", x.net(a), m.net(a)); break;
            case 9: is("device", x.device(b, c / 2), m.device(b, c / 2)); break;
            case 10: is("pin", x.pin(b, c / 2), m.pin(b, c / 2)); break;
            case 11: is("hangs", x.hangs(a), m.hangs(a)); break;
            default: is("told", x.told(b), m.told(b)); break;
        }
    }

    /** Draws something, then means just what is drawn, nets and devices in any order. */
    private void drawnAndMeant() {
        if (random.nextInt(6) != 0) {
            anyCall();
            return;
        }
        if (m.count(1) > 6 || random.nextInt(3) == 0) {
            change('r', 0, upTo(3), upTo(3), 4, 4);
            change('d', upTo(1), upTo(2), upTo(7), 6, 1);
            change('d', 1, upTo(7), upTo(3), 1, 5);
        }
        meanWhatIsDrawn();
    }

    private void meanWhatIsDrawn() {
        change('f');
        List<Integer> nets = new ArrayList<>();
        List<Integer> order = new ArrayList<>();
        for (int i = 0; i < 10; i++) {
            nets.add(i);
        }
        for (int i = 0; i < m.count(1); i++) {
            order.add(i);
        }
        Collections.shuffle(nets, random);
        Collections.shuffle(order, random);
        List<Integer> nodes = new ArrayList<>();
        for (int g : order) {
            int[] net = new int[3];
            for (int what = 0; what < 3; what++) {
                int node = m.gate(g, what);
                is("gate", x.gate(g, what), node);
                if (!nodes.contains(node)) {
                    nodes.add(node);
                }
                net[what] = nets.get(nodes.indexOf(node) % 10);
            }
            boolean turned = random.nextBoolean();
            if (random.nextInt(40) == 0) {
                net[upTo(2)] = upTo(9);
            }
            change('m', net[0], net[turned ? 2 : 1], net[turned ? 1 : 2]);
        }
        int pinsToo = random.nextInt(4);
        for (int k = 0; k < pinsToo; k++) {
            int c = upTo(7);
            int y = upTo(7);
            int node = m.node(2, c, y);
            is("node", x.node(2, c, y), node);
            int at = nodes.indexOf(node);
            change('p', c, y, at >= 0 && at < 10 ? nets.get(at) : upTo(9));
        }
        digest();
    }

    /** Columns of diffusion over bars of poly, ends joined by metal: many gates that hang alike. */
    private void rowsOfGates() {
        switch (random.nextInt(12)) {
            case 0: change('r', upTo(3), 0, 0, 8, 8); break;
            case 1:
            case 2: change('d', 0, 2 * upTo(3), 2 * upTo(2), 1, 1 + upTo(3)); break;
            case 3:
            case 4: change('d', 1, 2 * upTo(2), 1 + 2 * upTo(3), 1 + upTo(3), 1); break;
            case 5: change('d', 2, upTo(2), 2 * upTo(3), 1 + upTo(5), 1); break;
            case 6: change('d', 3, upTo(6), 2 * upTo(3), 1 + upTo(1), 1); break;
            case 7: is("back", x.back(), m.back()); break;
            case 8: change('v', upTo(3), upTo(2) - 1, upTo(2) - 1); break;
            case 9: ask(); break;
            default:
                if (m.count(1) <= 6) {
                    meanWhatIsDrawn();
                } else {
                    change('r', 1, upTo(4), upTo(4), 4, 4);
                }
                break;
        }
    }

    private void texts() {
        if (random.nextInt(12) == 0) {
            is("clear", x.clear(), m.clear());
        } else if (random.nextInt(8) == 0) {
            is("does", x.does(), m.does());
        } else if (random.nextInt(6) == 0) {
            anyCall();
        } else {
            typeOrder();
        }
    }

    private void typeOrder() {
        String order;
        switch (random.nextInt(5)) {
            case 0: order = "d" + upTo(3) + upTo(6) + upTo(6) + (1 + upTo(2)) + (1 + upTo(2)) + ";"; break;
            case 1: order = "r" + upTo(3) + upTo(6) + upTo(7) + (1 + upTo(1)) + upTo(2) + ";"; break;
            case 2: order = "m" + upTo(9) + upTo(9) + upTo(9) + ";"; break;
            case 3: order = "p" + upTo(7) + upTo(7) + upTo(9) + ";"; break;
            default: order = "f;"; break;
        }
        for (int i = 0; i < order.length(); i++) {
            if (random.nextInt(150) == 0) {
                continue;
            }
            type(order.charAt(i));
            if (random.nextInt(6) == 0) {
                type(32);
            }
            if (random.nextInt(150) == 0) {
                type(some(0, 127));
            }
        }
    }

    private void type(int c) {
        is("type " + c, x.type(c), m.type(c));
    }
}
