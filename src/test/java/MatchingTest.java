/** Promises 14 to 19: ways, matched, net, device, pin, hangs; and UNLIKE, SHORTS and OPENS as they bear on matches. */
public final class MatchingTest {
    private static final Due due = new Due("matching");

    public static void main(String[] args) {
        nothingMeant();
        oneGate();
        sidesAlike();
        brokenGatesMatchNothing();
        gateNetIsSideNet();
        firstIsByGatesBeforeNets();
        pinsBind();
        pinsAlone();
        manyWays();
        mostWays();
        ringsAreNotMatched();
        unlike();
        devicesAndPins();
        hangs();
        wrongNumbers();
        due.end();
    }

    /** Diffusion from left to right in row y, crossed by poly columns of one cell. */
    private static void row(DrawnGates x, int y, int... columns) {
        x.draws(0, 0, y, 8, 1);
        for (int c : columns) {
            x.draws(1, c, y, 1, 1);
        }
    }

    private static void nothingMeant() {
        DrawnGates x = new DrawnGates();
        due.is("nothing drawn", x.ways(), 1);
        x.draws(2, 0, 0, 8, 8);
        due.is("wires alone", x.ways(), 1);
        due.is("no net has a node", x.net(0), DrawnGates.NONE);
        row(x, 0, 3);
        due.is("a gate of no device", x.ways(), 0);
        due.is("none: net", x.net(0), DrawnGates.NO);
        due.is("BAD before NO", x.net(10), DrawnGates.BAD);
        due.is("told NO", x.told(1), 1);
    }

    private static void oneGate() {
        DrawnGates x = new DrawnGates();
        x.means(9, 8, 7);
        due.is("a device of no gate", x.ways(), 0);
        due.is("matched", x.matched(0), DrawnGates.NO);
        due.is("matched BAD before NO", x.matched(1), DrawnGates.BAD);
        row(x, 4, 3);
        due.is("either way round", x.ways(), 2);
        due.is("matched now", x.matched(0), 0);
        due.is("least net, least node", x.net(7), 0);
        due.is("the other side", x.net(8), 1);
        due.is("the gate", x.net(9), 2);
        due.is("a net of none", x.net(0), DrawnGates.NONE);
        due.is("told NO", x.told(1), 1);
        due.is("told BAD", x.told(0), 1);
    }

    private static void sidesAlike() {
        DrawnGates x = new DrawnGates();
        x.draws(0, 0, 0, 2, 1);
        x.draws(1, 1, 0, 1, 1);
        x.means(0, 1, 1);
        due.is("one side, one net", x.ways(), 1);
        due.is("net 1", x.net(1), 0);
        x.forgets();
        x.means(0, 1, 2);
        due.is("one side, two nets", x.ways(), 0);
        x.draws(0, 2, 0, 1, 1);
        due.is("two sides, two nets", x.ways(), 2);
        x.forgets();
        x.means(0, 1, 1);
        due.is("two sides, one net", x.ways(), 0);
    }

    private static void brokenGatesMatchNothing() {
        DrawnGates x = new DrawnGates();
        x.means(0, 1, 2);
        row(x, 0, 3);
        x.draws(0, 7, 7, 1, 1);
        x.draws(1, 7, 7, 1, 1);
        due.is("a broken one too many", x.ways(), 0);
        due.is("nothing is unlike", x.count(8), 0);
        x.means(3, 4, 5);
        due.is("broken for a device", x.ways(), 0);
        due.is("left over", x.count(8), 1);
        x.rubs(1, 7, 7, 1, 1);
        x.back();
        x.back();
        due.is("back", x.ways(), 0);
        x.rubs(0, 7, 7, 1, 1);
        due.is("gone", x.ways(), 2);
    }

    private static void gateNetIsSideNet() {
        DrawnGates x = new DrawnGates();
        row(x, 0, 3);
        x.means(1, 1, 2);
        due.is("gate apart from its side", x.ways(), 0);
        x.draws(2, 0, 0, 4, 1);
        x.draws(3, 0, 0, 1, 1);
        x.draws(3, 3, 0, 1, 1);
        due.is("gate at a side", x.ways(), 1);
        due.is("net 1", x.net(1), 0);
        due.is("net 2", x.net(2), 1);
        due.is("hangs 1", x.hangs(1), 11);
        due.is("wire 0", x.wire(0, 1), 11);
    }

    private static void firstIsByGatesBeforeNets() {
        DrawnGates x = new DrawnGates();
        row(x, 0, 1, 3);
        x.draws(1, 1, 0, 1, 2);
        x.draws(1, 1, 1, 3, 1);
        x.means(5, 2, 3);
        x.means(5, 3, 1);
        due.is("ways", x.ways(), 2);
        due.is("device 0 has the least gate", x.matched(0), 0);
        due.is("device 1", x.matched(1), 1);
        due.is("though net 1 could be less", x.net(1), 2);
        due.is("net 2", x.net(2), 0);
        due.is("net 3", x.net(3), 1);
        x.forgets();
        x.means(5, 1, 2);
        x.means(5, 1, 2);
        due.is("parallel meant, a row drawn", x.ways(), 0);
        x.draws(2, 0, 0, 8, 1);
        x.draws(3, 0, 0, 1, 1);
        x.draws(3, 7, 0, 1, 1);
        due.is("parallel drawn", x.ways(), 4);
        due.is("first by gates", x.matched(0), 0);
        due.is("then the least net", x.net(1), 0);
        due.is("then the other", x.net(2), 1);
    }

    private static void pinsBind() {
        DrawnGates x = new DrawnGates();
        row(x, 0, 3);
        x.means(0, 1, 2);
        x.draws(2, 7, 0, 1, 3);
        x.draws(3, 7, 0, 1, 1);
        x.pins(7, 2, 1);
        due.is("bound to the right side", x.ways(), 1);
        due.is("net 1", x.net(1), 1);
        due.is("net 2", x.net(2), 0);
        x.pins(7, 1, 1);
        due.is("twice the same", x.ways(), 1);
        x.pins(6, 1, 1);
        due.is("without metal it binds nothing", x.ways(), 1);
        x.draws(2, 5, 1, 1, 1);
        x.pins(5, 1, 9);
        due.is("a net of no device", x.ways(), 1);
        due.is("has its node", x.net(9), 3);
        x.pins(5, 1, 8);
        due.is("a short", x.count(6), 1);
        due.is("no match with it", x.ways(), 0);
        x.back();
        x.pins(5, 1, 1);
        due.is("an open with each of two", x.count(7), 2);
        due.is("no match with an open", x.ways(), 0);
        due.is("net then", x.net(0), DrawnGates.NO);
    }

    private static void pinsAlone() {
        DrawnGates x = new DrawnGates();
        x.pins(4, 4, 6);
        due.is("at none", x.ways(), 1);
        due.is("net at none", x.net(6), DrawnGates.NONE);
        x.draws(2, 4, 4, 1, 1);
        due.is("at a node", x.ways(), 1);
        due.is("net at it", x.net(6), 0);
        due.is("pin", x.pin(0, 3), 0);
    }

    private static void manyWays() {
        DrawnGates x = new DrawnGates();
        for (int c = 0; c < 6; c++) {
            x.draws(0, c, 0, 1, 3);
        }
        x.draws(1, 0, 1, 6, 1);
        due.is("one wide gate", x.count(1), 1);
        x.draws(0, 6, 0, 1, 3);
        x.rubs(0, 1, 1, 1, 1);
        x.rubs(0, 3, 1, 1, 1);
        x.rubs(0, 5, 1, 2, 1);
        due.is("gates side by side", x.count(1), 3);
        x.means(0, 1, 2);
        x.means(0, 2, 1);
        x.means(0, 1, 2);
        due.is("3! and both ways round", x.ways(), 12);

        DrawnGates y = new DrawnGates();
        for (int r = 0; r < 6; r++) {
            y.draws(0, 0, r, 3, 1);
        }
        y.draws(1, 1, 0, 1, 6);
        due.is("they hang together", y.count(1), 1);
        y.draws(0, 0, 0, 8, 8);
        y.rubs(0, 1, 0, 1, 8);
        y.draws(1, 1, 0, 1, 8);
        y.rubs(0, 3, 0, 5, 8);
        y.draws(0, 1, 0, 1, 1);
        y.draws(0, 1, 2, 1, 1);
        y.draws(0, 1, 4, 1, 1);
        y.draws(0, 1, 6, 1, 1);
        due.is("four in parallel", y.count(1), 4);
        for (int i = 0; i < 4; i++) {
            y.means(0, 1, 2);
        }
        due.is("4! and both ways round", y.ways(), 48);
        due.is("matched(3)", y.matched(3), 3);
        y.draws(1, 4, 0, 1, 8);
        y.draws(0, 3, 0, 1, 8);
        y.draws(0, 5, 0, 1, 8);
        y.draws(0, 4, 1, 1, 1);
        y.draws(0, 4, 5, 1, 1);
        due.is("six gates", y.count(1), 6);
        due.is("six gates and four devices", y.ways(), 0);
        due.is("all left over, as the middle hangs otherwise", y.count(8), 10);
    }

    /** Six in parallel, each with a gate of its own: no drawing of six has more ways. */
    private static void mostWays() {
        DrawnGates x = new DrawnGates();
        for (int c = 0; c <= 4; c += 2) {
            x.draws(0, c, 0, 1, 8);
        }
        x.draws(2, 0, 7, 5, 1);
        x.draws(3, 0, 7, 1, 1);
        x.draws(3, 4, 7, 1, 1);
        int[] columns = {1, 1, 1, 3, 3, 3};
        int[] rows = {0, 2, 4, 1, 3, 5};
        for (int i = 0; i < 6; i++) {
            x.draws(0, columns[i], rows[i], 1, 1);
            x.draws(1, columns[i], rows[i], 1, 1);
            x.means(9 - i, i % 2, 1 - i % 2);
        }
        due.is("gates", x.count(1), 6);
        due.is("6! and both ways round", x.ways(), 1440);
        for (int i = 0; i < 6; i++) {
            due.is("matched", x.matched(i), i);
            due.is("gate net", x.net(9 - i), 2 + i);
        }
        due.is("side 0", x.net(0), 0);
        due.is("side 1", x.net(1), 1);
    }

    /** Six in a ring hang as two rings of three do, but are no match. */
    private static void ringsAreNotMatched() {
        DrawnGates x = new DrawnGates();
        x.draws(1, 0, 1, 8, 1);
        x.draws(1, 0, 5, 8, 1);
        x.draws(1, 0, 1, 1, 5);
        for (int y = 0; y <= 4; y += 4) {
            for (int c = 2; c <= 6; c += 2) {
                x.draws(0, c, y, 1, 3);
            }
        }
        for (int y = 0; y <= 4; y += 4) {
            // column 4 bottom to 6 bottom, column 2 top to 4 top, column 2 bottom by metal to 6 top
            x.draws(0, 2, y, 3, 1);
            x.draws(0, 4, y + 2, 3, 1);
            x.draws(2, 2, y + 2, 2, 1);
            x.draws(2, 3, y, 1, 3);
            x.draws(2, 3, y, 4, 1);
            x.draws(3, 2, y + 2, 1, 1);
            x.draws(3, 6, y, 1, 1);
        }
        due.is("gates", x.count(1), 6);
        due.is("nodes", x.count(0), 7);
        for (int i = 0; i < 6; i++) {
            x.means(0, 1 + i, 1 + (i + 1) % 6);
        }
        due.is("none unlike", x.count(8), 0);
        due.is("no match of one ring", x.ways(), 0);
        x.forgets();
        for (int i = 0; i < 6; i++) {
            x.means(0, 1 + i, 1 + i / 3 * 3 + (i + 1) % 3);
        }
        due.is("two rings", x.ways(), 72);
        due.is("the first", x.matched(0) * 100 + x.matched(1) * 10 + x.matched(2), 12);
    }

    private static void unlike() {
        DrawnGates x = new DrawnGates();
        x.means(0, 1, 2);
        x.means(0, 1, 2);
        x.means(3, 4, 5);
        due.is("devices alone", x.count(8), 3);
        row(x, 0, 3);
        due.is("one is paired", x.count(8), 2);
        row(x, 7, 3);
        due.is("another of a kind that has one", x.count(8), 3);
        x.forgets();
        due.is("gates alone", x.count(8), 2);
        x.means(0, 1, 2);
        x.means(3, 4, 2);
        due.is("sides hang otherwise", x.count(8), 4);
        x.draws(2, 0, 0, 1, 8);
        x.draws(3, 0, 0, 1, 1);
        x.draws(3, 0, 7, 1, 1);
        due.is("now alike, turned round", x.count(8), 0);
        due.is("ways", x.ways(), 2);
        due.is("net 2", x.net(2), 0);
    }

    private static void devicesAndPins() {
        DrawnGates x = new DrawnGates();
        x.means(7, 9, 8);
        x.means(1, 1, 0);
        due.is("gate", x.device(0, 0), 7);
        due.is("a, as it came", x.device(0, 1), 9);
        due.is("b", x.device(0, 2), 8);
        due.is("of another", x.device(1, 2), 0);
        x.pins(6, 3, 4);
        x.pins(1, 2, 3);
        due.is("x", x.pin(0, 0), 6);
        due.is("y", x.pin(0, 1), 3);
        due.is("net", x.pin(0, 2), 4);
        due.is("node: none", x.pin(0, 3), DrawnGates.NONE);
        x.draws(1, 6, 3, 1, 1);
        due.is("poly is no metal", x.pin(0, 3), DrawnGates.NONE);
        x.draws(2, 6, 3, 1, 1);
        due.is("node", x.pin(0, 3), 1);
        due.is("pin 1", x.pin(1, 1), 2);
    }

    private static void hangs() {
        DrawnGates x = new DrawnGates();
        due.is("nothing", x.hangs(0), 0);
        x.means(0, 0, 0);
        due.is("gate and both sides", x.hangs(0), 12);
        x.means(0, 1, 0);
        due.is("more", x.hangs(0), 23);
        due.is("a side", x.hangs(1), 1);
        x.pins(0, 0, 9);
        due.is("pins do not count", x.hangs(9), 0);
        x.means(9, 9, 1);
        due.is("net 9", x.hangs(9), 11);
        due.is("net 1", x.hangs(1), 2);
    }

    private static void wrongNumbers() {
        DrawnGates x = new DrawnGates();
        x.means(0, 1, 2);
        x.pins(0, 0, 0);
        int[] wild = {-1, 10, Integer.MIN_VALUE, Integer.MAX_VALUE};
        for (int w : wild) {
            due.is("matched", x.matched(w), DrawnGates.BAD);
            due.is("net", x.net(w), DrawnGates.BAD);
            due.is("device i", x.device(w, 0), DrawnGates.BAD);
            due.is("device what", x.device(0, w), DrawnGates.BAD);
            due.is("pin i", x.pin(w, 0), DrawnGates.BAD);
            due.is("pin what", x.pin(0, w), DrawnGates.BAD);
            due.is("hangs", x.hangs(w), DrawnGates.BAD);
        }
        due.is("matched 1", x.matched(1), DrawnGates.BAD);
        due.is("device 1", x.device(1, 0), DrawnGates.BAD);
        due.is("device what 3", x.device(0, 3), DrawnGates.BAD);
        due.is("pin 1", x.pin(1, 0), DrawnGates.BAD);
        due.is("pin what 4", x.pin(0, 4), DrawnGates.BAD);
        due.is("told BAD", x.told(0), 33);
        due.is("told NO", x.told(1), 0);
    }
}
