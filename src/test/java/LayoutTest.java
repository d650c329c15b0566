/** Promises 8 to 13: at, node, count, gateAt, gate, wire. */
public final class LayoutTest {
    private static final Due due = new Due("layout");

    public static void main(String[] args) {
        cells();
        nodesAreNumbered();
        cutsJoin();
        cutsThatJoinNothing();
        most();
        gates();
        gatesOfOneSide();
        brokenGates();
        snake();
        wires();
        counts();
        wrongNumbers();
        due.end();
    }

    private static void cells() {
        DrawnGates x = new DrawnGates();
        x.draws(2, 7, 0, 1, 1);
        due.is("at", x.at(2, 7, 0), 1);
        due.is("at the other corner", x.at(2, 0, 7), 0);
        due.is("at another layer", x.at(3, 7, 0), 0);
        due.is("cell 7 is bit 7", x.node(2, 7, 0), 0);
    }

    private static void nodesAreNumbered() {
        DrawnGates x = new DrawnGates();
        x.draws(2, 0, 0, 1, 1);
        x.draws(1, 7, 7, 1, 1);
        x.draws(0, 5, 5, 1, 1);
        x.draws(0, 6, 4, 1, 1);
        due.is("pieces that touch at a corner alone", x.count(3), 4);
        due.is("by the least cell", x.node(0, 6, 4), 0);
        due.is("then the greater", x.node(0, 5, 5), 1);
        due.is("then poly", x.node(1, 7, 7), 2);
        due.is("then metal", x.node(2, 0, 0), 3);
        due.is("nothing there", x.node(2, 1, 0), DrawnGates.NONE);
        x.draws(0, 7, 0, 1, 1);
        x.draws(0, 0, 1, 1, 1);
        due.is("the edges are not one beside the other", x.count(0), 6);
        x.draws(1, 5, 5, 1, 1);
        due.is("diffusion under poly is not plain", x.node(0, 5, 5), DrawnGates.NONE);
        due.is("it is poly", x.node(1, 5, 5), 3);
    }

    private static void cutsJoin() {
        DrawnGates x = new DrawnGates();
        x.draws(0, 0, 0, 1, 1);
        x.draws(1, 2, 0, 1, 1);
        x.draws(2, 0, 0, 3, 1);
        due.is("no cut yet", x.count(0), 3);
        x.draws(3, 2, 0, 1, 1);
        due.is("metal and poly", x.node(2, 0, 0), x.node(1, 2, 0));
        due.is("numbered by the least", x.node(2, 0, 0), 1);
        x.draws(3, 0, 0, 1, 1);
        due.is("all in one", x.count(0), 1);
        due.is("pieces stay", x.count(3), 3);
        x.draws(0, 2, 0, 1, 1);
        due.is("a cut on a gate cell joins poly", x.node(1, 2, 0), 0);
        x.rubs(2, 1, 0, 1, 1);
        due.is("metal in two", x.count(0), 2);
        due.is("metal there", x.node(2, 2, 0), x.node(1, 2, 0));
    }

    private static void cutsThatJoinNothing() {
        DrawnGates x = new DrawnGates();
        x.draws(3, 0, 0, 8, 8);
        due.is("a cut is no piece", x.count(3), 0);
        x.draws(0, 0, 0, 1, 1);
        x.draws(1, 1, 0, 1, 1);
        due.is("without metal no join", x.count(0), 2);
        x.draws(2, 0, 5, 8, 1);
        due.is("metal alone", x.count(0), 3);
        x.draws(2, 0, 0, 2, 1);
        due.is("metal over both", x.count(0), 2);
    }

    private static void most() {
        DrawnGates x = new DrawnGates();
        for (int c = 0; c < 64; c++) {
            int black = (c % 8 + c / 8) % 2;
            x.draws(black, c % 8, c / 8, 1, 1);
            if (black == 0) {
                x.draws(2, c % 8, c / 8, 1, 1);
            }
        }
        due.is("pieces", x.count(3), 96);
        due.is("nodes", x.count(0), 96);
        due.is("the last node", x.node(2, 7, 7), 95);
        due.is("its cells", x.wire(95, 0), 1);
        due.is("beyond", x.wire(96, 0), DrawnGates.BAD);
        x.draws(3, 0, 0, 8, 8);
        due.is("joined", x.count(0), 64);
        x.draws(0, 0, 0, 8, 8);
        due.is("gates", x.count(1), 32);
        due.is("broken, all but two in corners", x.count(2), 30);
        due.is("the last", x.gate(31, 5), 62);
        due.is("its sides", x.gate(31, 4), 3);
        due.is("no more", x.gate(32, 5), DrawnGates.BAD);
        due.is("unlike are the well ones alone", x.count(8), 2);
        due.is("ways", x.ways(), 0);
    }

    private static void gates() {
        DrawnGates x = new DrawnGates();
        x.draws(0, 0, 2, 8, 2);
        x.draws(1, 3, 0, 2, 8);
        due.is("one gate", x.count(1), 1);
        due.is("at", x.gateAt(4, 3), 0);
        due.is("not at", x.gateAt(5, 3), DrawnGates.NONE);
        due.is("not at poly alone", x.gateAt(3, 1), DrawnGates.NONE);
        due.is("node", x.gate(0, 0), 2);
        due.is("A", x.gate(0, 1), 0);
        due.is("B", x.gate(0, 2), 1);
        due.is("cells", x.gate(0, 3), 4);
        due.is("sides", x.gate(0, 4), 2);
        due.is("least cell", x.gate(0, 5), 19);
        due.is("how the node hangs", x.wire(2, 1), 10);
        due.is("how A hangs", x.wire(0, 1), 1);
        x.draws(0, 0, 0, 1, 1);
        due.is("A is another number now", x.gate(0, 1), 1);
        x.draws(2, 0, 0, 1, 8);
        x.draws(3, 0, 0, 1, 3);
        due.is("A is joined with what is less", x.gate(0, 1), 0);
    }

    private static void gatesOfOneSide() {
        DrawnGates x = new DrawnGates();
        x.draws(0, 0, 0, 2, 1);
        x.draws(1, 1, 0, 1, 2);
        due.is("sides", x.gate(0, 4), 1);
        due.is("A", x.gate(0, 1), 0);
        due.is("B", x.gate(0, 2), 0);
        due.is("well", x.count(2), 0);
        due.is("both sides hang", x.wire(0, 1), 2);
        x.draws(0, 2, 0, 1, 1);
        due.is("two sides", x.gate(0, 2), 1);
        x.draws(2, 0, 0, 3, 1);
        x.draws(3, 0, 0, 1, 1);
        x.draws(3, 2, 0, 1, 1);
        due.is("two pieces of one node are one side", x.gate(0, 4), 1);
        due.is("hang of it", x.wire(0, 1), 2);
        x.draws(3, 1, 0, 1, 1);
        due.is("gate and sides one node", x.wire(0, 1), 12);
        due.is("its node", x.gate(0, 0), 0);
    }

    private static void brokenGates() {
        DrawnGates x = new DrawnGates();
        x.draws(0, 3, 3, 1, 1);
        x.draws(1, 3, 3, 1, 1);
        due.is("no sides", x.gate(0, 4), 0);
        due.is("broken", x.count(2), 1);
        due.is("A", x.gate(0, 1), DrawnGates.NONE);
        due.is("B", x.gate(0, 2), DrawnGates.NONE);
        due.is("hangs not", x.wire(0, 1), 0);
        x.draws(0, 3, 2, 1, 3);
        due.is("two sides", x.count(2), 0);
        x.draws(0, 4, 3, 1, 1);
        due.is("three sides", x.gate(0, 4), 3);
        due.is("broken again", x.count(2), 1);
        due.is("A again", x.gate(0, 1), DrawnGates.NONE);
        due.is("node all the same", x.gate(0, 0), 3);
        due.is("hangs not again", x.wire(3, 1), 0);
        x.draws(0, 2, 3, 1, 1);
        due.is("four sides", x.gate(0, 4), 4);
    }

    /** A piece of metal that winds over the whole field hangs together from end to end. */
    private static void snake() {
        DrawnGates x = new DrawnGates();
        for (int y = 0; y < 8; y += 2) {
            x.draws(2, 0, y, 8, 1);
            if (y < 6) {
                x.draws(2, y % 4 == 0 ? 7 : 0, y + 1, 1, 1);
            }
        }
        due.is("one piece", x.count(3), 1);
        due.is("its cells", x.wire(0, 0), 35);
        x.rubs(2, 4, 4, 1, 1);
        due.is("cut in two", x.count(3), 2);
    }

    private static void wires() {
        DrawnGates x = new DrawnGates();
        x.draws(0, 0, 0, 3, 1);
        x.draws(2, 0, 0, 3, 2);
        due.is("plain", x.wire(0, 0), 3);
        due.is("metal", x.wire(1, 0), 6);
        x.draws(3, 1, 0, 1, 1);
        due.is("cells of two layers count twice", x.wire(0, 0), 9);
        x.draws(1, 1, 0, 1, 1);
        due.is("poly in between", x.node(1, 1, 0), 2);
        due.is("with the metal", x.wire(2, 0), 7);
        due.is("diffusion under it counts no more", x.wire(0, 0), 1);
        due.is("how", x.wire(2, 1), 10);
    }

    private static void counts() {
        DrawnGates x = new DrawnGates();
        x.draws(2, 0, 0, 8, 1);
        x.draws(2, 0, 2, 8, 1);
        x.pins(0, 0, 1);
        x.pins(7, 0, 2);
        x.pins(3, 0, 3);
        due.is("three shorts at one node", x.count(6), 3);
        due.is("no opens", x.count(7), 0);
        x.pins(0, 2, 1);
        x.pins(7, 2, 2);
        due.is("shorts", x.count(6), 4);
        due.is("opens", x.count(7), 2);
        x.pins(0, 1, 1);
        due.is("a pin without metal: shorts", x.count(6), 4);
        due.is("a pin without metal: opens", x.count(7), 2);
        x.draws(2, 0, 1, 1, 1);
        due.is("one node: opens", x.count(7), 0);
        due.is("one node: shorts", x.count(6), 11);
        due.is("pins", x.count(5), 6);
    }

    private static void wrongNumbers() {
        DrawnGates x = new DrawnGates();
        x.draws(0, 0, 2, 8, 2);
        x.draws(1, 3, 0, 2, 8);
        int[] wild = {-1, 64, Integer.MIN_VALUE, Integer.MAX_VALUE};
        for (int w : wild) {
            due.is("at l", x.at(w, 0, 0), DrawnGates.BAD);
            due.is("at x", x.at(0, w, 0), DrawnGates.BAD);
            due.is("at y", x.at(0, 0, w), DrawnGates.BAD);
            due.is("node l", x.node(w, 0, 0), DrawnGates.BAD);
            due.is("node x", x.node(0, w, 0), DrawnGates.BAD);
            due.is("node y", x.node(0, 0, w), DrawnGates.BAD);
            due.is("count", x.count(w), DrawnGates.BAD);
            due.is("gateAt x", x.gateAt(w, 0), DrawnGates.BAD);
            due.is("gateAt y", x.gateAt(0, w), DrawnGates.BAD);
            due.is("gate i", x.gate(w, 0), DrawnGates.BAD);
            due.is("gate what", x.gate(0, w), DrawnGates.BAD);
            due.is("wire n", x.wire(w, 0), DrawnGates.BAD);
            due.is("wire what", x.wire(0, w), DrawnGates.BAD);
        }
        due.is("node of cuts", x.node(3, 0, 0), DrawnGates.BAD);
        due.is("at 8", x.at(0, 8, 0), DrawnGates.BAD);
        due.is("gateAt 8", x.gateAt(0, 8), DrawnGates.BAD);
        due.is("count 9", x.count(9), DrawnGates.BAD);
        due.is("gate 1", x.gate(1, 0), DrawnGates.BAD);
        due.is("gate what 6", x.gate(0, 6), DrawnGates.BAD);
        due.is("wire 3", x.wire(3, 0), DrawnGates.BAD);
        due.is("wire what 2", x.wire(0, 2), DrawnGates.BAD);
        due.is("refused", x.told(0), 60);
    }
}
