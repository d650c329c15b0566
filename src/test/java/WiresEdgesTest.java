/** The Terms of CELLS, PIECES, NODES and GATES, and promises 8 to 13: each edge, at it and beside it. */
public final class WiresEdgesTest {
    private static final int[][] BESIDE = {{3, 2}, {3, 4}, {2, 3}, {4, 3}};
    private static final int[][] CORNERS = {{2, 2}, {4, 2}, {2, 4}, {4, 4}};
    // Two cells each that follow one another only by number or around an edge.
    private static final int[][] AROUND = {
        {7, 0, 0, 1}, {7, 6, 0, 7}, {0, 3, 7, 3}, {0, 3, 7, 2}, {4, 0, 4, 7}, {7, 7, 0, 0}, {7, 0, 0, 7}
    };
    private static final Due due = new Due("wires edges");

    public static void main(String[] args) {
        cellNumbers();
        cellsOfLayers();
        piecesHangTogether();
        gateCellsHangTogether();
        sidesAreBeside();
        plainEndsAtPoly();
        cutsOfOneCell();
        cutsJoinPolyOrPlain();
        joinedOneByTheOther();
        nodesByTheLeast();
        nodesWhereNothingIs();
        gatesByTheLeastCell();
        gatesWhereNoneIs();
        sidesFromNoneToFour();
        sidesEachOnce();
        lesserAndGreater();
        nodeOfAGate();
        brokenHangNothing();
        wireCells();
        countsOfEach();
        nothingStaysOfWhatIsRubbedOut();
        due.end();
    }

    /** "CELL number 8 y + x": the corners. */
    private static void cellNumbers() {
        int[][] corners = {{0, 0, 0}, {7, 0, 7}, {0, 7, 56}, {7, 7, 63}, {0, 1, 8}, {1, 0, 1}};
        for (int[] c : corners) {
            DrawnGates x = new DrawnGates();
            Sketch.cell(x, 'g', c[0], c[1]);
            due.is("least cell of the gate at " + c[0] + ", " + c[1], x.gate(0, 5), c[2]);
            due.is("the gate is there", x.gateAt(c[0], c[1]), 0);
        }
    }

    /** at: "1, 0", in each LAYER by itself. */
    private static void cellsOfLayers() {
        for (int l = 0; l < 4; l++) {
            DrawnGates x = new DrawnGates();
            x.draws(l, 3, 5, 1, 1);
            for (int other = 0; other < 4; other++) {
                due.is("layer " + other + " of " + l, x.at(other, 3, 5), other == l ? 1 : 0);
            }
            due.is("left", x.at(l, 2, 5), 0);
            due.is("right", x.at(l, 4, 5), 0);
            due.is("above", x.at(l, 3, 4), 0);
            due.is("below", x.at(l, 3, 6), 0);
            due.is("x and y told the other way", x.at(l, 5, 3), 0);
        }
    }

    private static int countOfTwo(String signs, int what, int... cells) {
        DrawnGates x = new DrawnGates();
        Sketch.cell(x, signs.charAt(0), cells[0], cells[1]);
        Sketch.cell(x, signs.charAt(1), cells[2], cells[3]);
        return x.count(what);
    }

    /** "BESIDE a CELL: those above, below, left, right of it": no corner, nothing around an edge. */
    private static void piecesHangTogether() {
        for (String signs : new String[] {"dd", "pp", "mm"}) {
            for (int[] c : BESIDE) {
                due.is(signs + " beside", countOfTwo(signs, 3, 3, 3, c[0], c[1]), 1);
            }
            for (int[] c : CORNERS) {
                due.is(signs + " at a corner", countOfTwo(signs, 3, 3, 3, c[0], c[1]), 2);
            }
            for (int[] c : AROUND) {
                due.is(signs + " around an edge", countOfTwo(signs, 3, c), 2);
            }
            due.is(signs + " one apart", countOfTwo(signs, 3, 3, 3, 5, 3), 2);
            due.is(signs + " the same cell", countOfTwo(signs, 3, 3, 3, 3, 3), 1);
        }
        for (String signs : new String[] {"dp", "dm", "pm"}) {
            due.is(signs + " beside, of two layers", countOfTwo(signs, 3, 3, 3, 4, 3), 2);
            due.is(signs + " no node of both", countOfTwo(signs, 0, 3, 3, 4, 3), 2);
        }
        due.is("cuts are none", countOfTwo("cc", 3, 3, 3, 4, 3), 0);
    }

    private static void gateCellsHangTogether() {
        for (int[] c : BESIDE) {
            due.is("gate beside", countOfTwo("gg", 1, 3, 3, c[0], c[1]), 1);
        }
        for (int[] c : CORNERS) {
            due.is("gate at a corner", countOfTwo("gg", 1, 3, 3, c[0], c[1]), 2);
        }
        for (int[] c : AROUND) {
            due.is("gate around an edge", countOfTwo("gg", 1, c), 2);
        }
        due.is("diffusion beside poly is no gate", countOfTwo("dp", 1, 3, 3, 4, 3), 0);
        due.is("diffusion over poly is one", countOfTwo("dp", 1, 3, 3, 3, 3), 1);
        due.is("diffusion over metal is none", countOfTwo("dm", 1, 3, 3, 3, 3), 0);
        due.is("poly over metal is none", countOfTwo("pm", 1, 3, 3, 3, 3), 0);
        DrawnGates apart = Sketch.of("gpg");
        due.is("two gates of one poly", apart.count(1), 2);
        due.is("their node is one", apart.gate(0, 0), apart.gate(1, 0));
    }

    private static int sidesOfTwo(int... cells) {
        DrawnGates x = new DrawnGates();
        Sketch.cell(x, 'g', cells[0], cells[1]);
        Sketch.cell(x, 'd', cells[2], cells[3]);
        return x.gate(0, 4);
    }

    /** "the NODES of PLAIN CELLS that are BESIDE its CELLS". */
    private static void sidesAreBeside() {
        for (int[] c : BESIDE) {
            due.is("side beside", sidesOfTwo(3, 3, c[0], c[1]), 1);
        }
        for (int[] c : CORNERS) {
            due.is("side at a corner", sidesOfTwo(3, 3, c[0], c[1]), 0);
        }
        for (int[] c : AROUND) {
            due.is("side around an edge", sidesOfTwo(c), 0);
            due.is("and the other way", sidesOfTwo(c[2], c[3], c[0], c[1]), 0);
        }
        due.is("metal beside is no side", Sketch.of("mgm").gate(0, 4), 0);
        due.is("poly beside is no side", Sketch.of("pgp").gate(0, 4), 0);
        due.is("a cell beside the last of many", Sketch.of("ggg", "..d").gate(0, 4), 1);
    }

    /** "PLAIN: of DIFFUSION, not of POLY." */
    private static void plainEndsAtPoly() {
        DrawnGates x = Sketch.of("ddddd");
        due.is("one piece", x.count(3), 1);
        x.draws(1, 2, 0, 1, 1);
        due.is("plain in two, and poly", x.count(3), 3);
        due.is("left", x.node(0, 1, 0), 0);
        due.is("right", x.node(0, 3, 0), 1);
        due.is("under poly nothing is plain", x.node(0, 2, 0), DrawnGates.NONE);
        due.is("though it is drawn", x.at(0, 2, 0), 1);
        x.rubs(1, 2, 0, 1, 1);
        due.is("one again", x.count(3), 1);
        due.is("and plain", x.node(0, 2, 0), 0);
    }

    /** "A CELL of CUT and METAL joins the PIECE of METAL with that of POLY there, or with that of PLAIN there." */
    private static void cutsOfOneCell() {
        String signs = "dpgmcDPGxyzMeq";
        int[] pieces = {1, 1, 1, 1, 0, 2, 2, 2, 2, 2, 2, 1, 1, 1};
        int[] nodes = {1, 1, 1, 1, 0, 2, 2, 2, 1, 1, 1, 1, 1, 1};
        for (int i = 0; i < signs.length(); i++) {
            DrawnGates x = new DrawnGates();
            Sketch.cell(x, signs.charAt(i), 4, 4);
            due.is("pieces of " + signs.charAt(i), x.count(3), pieces[i]);
            due.is("nodes of " + signs.charAt(i), x.count(0), nodes[i]);
        }
    }

    private static void cutsJoinPolyOrPlain() {
        DrawnGates gate = Sketch.of("dzd");
        due.is("at a gate cell: plain, plain, poly with metal", gate.count(0), 3);
        due.is("metal is with poly", gate.node(2, 1, 0), gate.node(1, 1, 0));
        due.is("sides are apart from it", gate.gate(0, 4), 2);
        due.is("a cut beside the metal joins nothing", Sketch.of("Pc").count(0), 2);
        due.is("a cut on poly beside the metal joins nothing", Sketch.of("Pq").count(0), 2);
        due.is("a cut on metal beside poly joins nothing", Sketch.of("Mp").count(0), 2);
        due.is("cuts do not hang together", Sketch.of("yc", ".c", "yc").count(0), 2);
        due.is("poly and plain under one metal, one cut", Sketch.of("Dmy").count(0), 2);
        due.is("poly and plain under one metal, two cuts", Sketch.of("xmy").count(0), 1);
        DrawnGates x = Sketch.of("D");
        x.draws(3, 0, 0, 1, 1);
        due.is("the cut comes", x.count(0), 1);
        x.rubs(2, 0, 0, 1, 1);
        x.draws(2, 1, 0, 1, 1);
        due.is("the metal goes", x.count(0), 2);
    }

    /** "NODES: all PIECES that are joined, one by the other." */
    private static void joinedOneByTheOther() {
        DrawnGates x = Sketch.of("ypymx", "", "", "m");
        due.is("pieces", x.count(3), 5);
        due.is("nodes", x.count(0), 2);
        due.is("plain", x.node(0, 4, 0), 0);
        due.is("the first metal by poly and metal", x.node(2, 0, 0), 0);
        due.is("metal alone", x.node(2, 0, 3), 1);
        DrawnGates long8 = Sketch.of("x.x.x.x.", "d.d.d.d.", "xmxmxmx.");
        due.is("four columns by one metal", long8.count(0), 1);
        due.is("their pieces", long8.count(3), 9);
        DrawnGates most = new DrawnGates();
        most.draws(2, 0, 0, 8, 8);
        most.draws(3, 0, 0, 8, 8);
        for (int c = 0; c < 64; c++) {
            most.draws((c % 8 + c / 8) % 2, c % 8, c / 8, 1, 1);
        }
        due.is("65 pieces", most.count(3), 65);
        due.is("one node", most.count(0), 1);
        due.is("its cells", most.wire(0, 0), 128);
    }

    /** "numbered 0 on, by the least that is in each: 64 times the LAYER (0 to 2) and the CELL number." */
    private static void nodesByTheLeast() {
        DrawnGates x = new DrawnGates();
        Sketch.cell(x, 'm', 0, 0);
        Sketch.cell(x, 'p', 6, 7);
        Sketch.cell(x, 'd', 7, 7);
        due.is("plain at 63", x.node(0, 7, 7), 0);
        due.is("before poly at 62", x.node(1, 6, 7), 1);
        due.is("before metal at 0", x.node(2, 0, 0), 2);
        DrawnGates y = Sketch.of("p......d", "d.......");
        due.is("cell 7", y.node(0, 7, 0), 0);
        due.is("before cell 8", y.node(0, 0, 1), 1);
        DrawnGates joined = Sketch.of("..p.m", "....m", ".d..m", "....m", "....x");
        due.is("plain 17", joined.node(0, 1, 2), 0);
        due.is("plain 36 and metal 4", joined.node(2, 4, 0), 1);
        due.is("poly 2", joined.node(1, 2, 0), 2);
        joined.draws(0, 4, 2, 1, 1);
        due.is("plain 20 is in between now", joined.node(0, 4, 2), 1);
        due.is("plain 36 behind it", joined.node(0, 4, 4), 2);
        joined.draws(3, 4, 2, 1, 1);
        due.is("joined they are one", joined.node(0, 4, 4), 1);
    }

    /** node: "NONE: nothing of that is there." */
    private static void nodesWhereNothingIs() {
        DrawnGates x = Sketch.of("dpgmc");
        int[][] want = {
            {0, DrawnGates.NONE, DrawnGates.NONE, DrawnGates.NONE, DrawnGates.NONE, DrawnGates.NONE},
            {DrawnGates.NONE, 1, 1, DrawnGates.NONE, DrawnGates.NONE, DrawnGates.NONE},
            {DrawnGates.NONE, DrawnGates.NONE, DrawnGates.NONE, 2, DrawnGates.NONE, DrawnGates.NONE}
        };
        for (int l = 0; l < 3; l++) {
            for (int c = 0; c < 6; c++) {
                due.is("node of layer " + l + " at " + c, x.node(l, c, 0), want[l][c]);
            }
        }
        due.is("no refusal", x.told(0), 0);
        due.refused("cuts have none", x, DrawnGates.BAD, () -> x.node(3, 4, 0));
    }

    /** "GATES: GATE CELLS that hang together, numbered by their least CELL." */
    private static void gatesByTheLeastCell() {
        DrawnGates x = Sketch.of(".......g", "g.....gg", "gg.g....", "........", "........", "........", "........", ".......g");
        due.is("gates", x.count(1), 4);
        int[][] want = {{7, 3}, {8, 3}, {19, 1}, {63, 1}};
        for (int i = 0; i < 4; i++) {
            due.is("least cell of " + i, x.gate(i, 5), want[i][0]);
            due.is("cells of " + i, x.gate(i, 3), want[i][1]);
        }
        due.is("the last of gate 0", x.gateAt(6, 1), 0);
        due.is("the last of gate 1", x.gateAt(1, 2), 1);
        DrawnGates all = Sketch.of();
        all.draws(0, 0, 0, 8, 8);
        all.draws(1, 0, 0, 8, 8);
        due.is("one of all cells", all.count(1), 1);
        due.is("its cells", all.gate(0, 3), 64);
        due.is("its least", all.gate(0, 5), 0);
        due.is("at its last", all.gateAt(7, 7), 0);
    }

    /** gateAt: NONE. */
    private static void gatesWhereNoneIs() {
        DrawnGates x = Sketch.of("dpgmcM.");
        for (int c = 0; c < 8; c++) {
            due.is("gate at " + c, x.gateAt(c, 0), c == 2 ? 0 : DrawnGates.NONE);
        }
        due.is("below it", x.gateAt(2, 1), DrawnGates.NONE);
        due.is("no refusal", x.told(0), 0);
    }

    private static void gateIs(String name, DrawnGates x, int sides, int a, int b) {
        due.is(name + ": sides", x.gate(0, 4), sides);
        due.is(name + ": A", x.gate(0, 1), a);
        due.is(name + ": B", x.gate(0, 2), b);
        due.is(name + ": broken", x.count(2), a == DrawnGates.NONE ? 1 : 0);
    }

    /** "It is WELL, if they are one or two ..; else BROKEN." */
    private static void sidesFromNoneToFour() {
        int none = DrawnGates.NONE;
        gateIs("none", Sketch.of("...", ".g.", "..."), 0, none, none);
        gateIs("one", Sketch.of("...", "dg.", "..."), 1, 0, 0);
        gateIs("two", Sketch.of("...", "dgd", "..."), 2, 0, 1);
        gateIs("two around a corner", Sketch.of(".d.", "dg.", "..."), 2, 0, 1);
        gateIs("three", Sketch.of(".d.", "dgd", "..."), 3, none, none);
        gateIs("four", Sketch.of(".d.", "dgd", ".d."), 4, none, none);
        gateIs("eight", Sketch.of("d.d.d.d", "ggggggg", "d.d.d.d"), 8, none, none);
        DrawnGates both = Sketch.of("g.dgd");
        due.is("one broken of two", both.count(2), 1);
        due.is("the broken one", both.gate(0, 1), none);
        due.is("the well one", both.gate(1, 1), 0);
    }

    /** "each once"; "(of one, both it)". */
    private static void sidesEachOnce() {
        gateIs("one piece all around", Sketch.of("ddd", "dgd", "ddd"), 1, 0, 0);
        gateIs("one piece on three sides", Sketch.of("ddd", "dgd", "..."), 1, 0, 0);
        gateIs("one piece at many cells", Sketch.of("ddd", "ggg", "ddd"), 2, 0, 1);
        gateIs("two pieces, one node", Sketch.of("xGx"), 1, 0, 0);
        gateIs("three pieces, two nodes", Sketch.of(".d.", "xGx"), 2, 0, 1);
        gateIs("three pieces, one node", Sketch.of(".x.", "xGx"), 1, 0, 0);
        gateIs("four pieces, three nodes", Sketch.of(".d.", "xGx", ".d."), 3, DrawnGates.NONE, DrawnGates.NONE);
        gateIs("four pieces, two nodes", Sketch.of(".xm", "xGx", ".d."), 2, 0, 1);
        gateIs("poly of one node with a side", Sketch.of("xzd"), 2, 0, 1);
    }

    /** "A the lesser, B the greater". */
    private static void lesserAndGreater() {
        DrawnGates x = Sketch.of("..x", "..m", "dgx");
        due.is("right is joined with what is above", x.node(0, 2, 2), 0);
        due.is("left", x.node(0, 0, 2), 1);
        due.is("A is right", x.gate(0, 1), 0);
        due.is("B is left", x.gate(0, 2), 1);
        DrawnGates y = Sketch.of(".....", "d.d.d", "....g", "....d");
        due.is("A behind others", y.gate(0, 1), 2);
        due.is("B", y.gate(0, 2), 3);
    }

    /** "The NODE of a GATE is that of POLY there". */
    private static void nodeOfAGate() {
        due.is("poly behind plain", Sketch.of("dgd").gate(0, 0), 2);
        due.is("poly joined with plain", Sketch.of("xzd").gate(0, 0), 0);
        due.is("of a broken one, too", Sketch.of("d.g").gate(0, 0), 1);
        DrawnGates x = Sketch.of("p.dgd", "", "..dgd");
        due.is("the first", x.gate(0, 0), 5);
        due.is("the second", x.gate(1, 0), 6);
    }

    /** "a NODE likewise by GATES that are WELL (A and B)." */
    private static void brokenHangNothing() {
        DrawnGates x = Sketch.of("dgd", ".d.");
        due.is("three sides: left", x.wire(0, 1), 0);
        due.is("three sides: the gate", x.wire(3, 1), 0);
        x.rubs(0, 1, 1, 1, 1);
        due.is("two sides: left", x.wire(0, 1), 1);
        due.is("two sides: right", x.wire(1, 1), 1);
        due.is("two sides: the gate", x.wire(2, 1), 10);
        x.rubs(0, 2, 0, 1, 1);
        due.is("one side: both are it", x.wire(0, 1), 2);
        due.is("one side: the gate", x.wire(1, 1), 10);
        x.rubs(0, 0, 0, 1, 1);
        due.is("no side: the gate", x.wire(0, 1), 0);
        due.is("gate and both sides are one", Sketch.of("xz").wire(0, 1), 12);
        due.is("metal alone", Sketch.of("m").wire(0, 1), 0);
        due.is("both sides of three gates", Sketch.of(".d.", "gdg", ".g.").wire(0, 1), 6);
    }

    /** wire: "a CELL of two LAYERS counts twice"; cuts and what is under poly do not count. */
    private static void wireCells() {
        due.is("plain", Sketch.of("d").wire(0, 0), 1);
        due.is("plain and metal, no cut: plain", Sketch.of("D").wire(0, 0), 1);
        due.is("plain and metal, no cut: metal", Sketch.of("D").wire(1, 0), 1);
        due.is("plain and metal with a cut", Sketch.of("x").wire(0, 0), 2);
        due.is("poly and metal with a cut", Sketch.of("y").wire(0, 0), 2);
        due.is("a gate cell: poly alone", Sketch.of("g").wire(0, 0), 1);
        due.is("a gate cell with metal and a cut", Sketch.of("z").wire(0, 0), 2);
        due.is("metal and a cut", Sketch.of("M").wire(0, 0), 1);
        due.is("two pieces by one metal", Sketch.of("xmx").wire(0, 0), 5);
        DrawnGates all = new DrawnGates();
        all.draws(1, 0, 0, 8, 8);
        due.is("all of a layer", all.wire(0, 0), 64);
        all.draws(2, 0, 0, 8, 8);
        all.draws(3, 7, 7, 1, 1);
        due.is("all of two", all.wire(0, 0), 128);
    }

    /** count: each what, 0 .. 8. */
    private static void countsOfEach() {
        DrawnGates x = Sketch.of("dgdgdd", "", ".gd.g", "", "xm.m.m");
        x.means(0, 1, 2);
        x.means(9, 9, 9);
        x.means(9, 9, 9);
        x.means(0, 1, 2);
        x.means(9, 9, 9);
        x.pins(0, 4, 1);
        x.pins(1, 4, 2);
        x.pins(3, 4, 2);
        x.pins(5, 4, 2);
        x.pins(7, 7, 2);
        x.pins(7, 7, 1);
        // 5 plain, 4 of poly and 3 of metal, a cut between two; one gate of 4 has no side.
        int[] want = {11, 4, 1, 12, 5, 6, 1, 3, 8};
        for (int what = 0; what < 9; what++) {
            due.is("count " + what, x.count(what), want[what]);
        }
    }

    /** What was drawn, and asked for, leaves no trace when it is gone. */
    private static void nothingStaysOfWhatIsRubbedOut() {
        DrawnGates gates = Sketch.of("dgdgd");
        due.is("the second gate", gates.gateAt(3, 0), 1);
        gates.rubs(1, 3, 0, 1, 1);
        due.is("the second gate is gone", gates.gateAt(3, 0), DrawnGates.NONE);
        due.is("one is left", gates.count(1), 1);
        DrawnGates sides = Sketch.of(".d.", "dgd");
        due.is("three sides", sides.gate(0, 4), 3);
        sides.rubs(0, 1, 0, 1, 1);
        sides.rubs(0, 2, 1, 1, 1);
        due.is("one side", sides.gate(0, 4), 1);
        due.is("B", sides.gate(0, 2), 0);
        DrawnGates nodes = Sketch.of("d.d.d", "", "p.p.p", "", "m.m.m");
        due.is("nodes", nodes.count(0), 9);
        for (int l = 0; l < 3; l++) {
            nodes.rubs(l, 0, 0, 8, 8);
        }
        due.is("no nodes", nodes.count(0), 0);
        due.is("no pieces", nodes.count(3), 0);
        for (int l = 0; l < 3; l++) {
            due.is("none of layer " + l, nodes.node(l, 4, 2 * l), DrawnGates.NONE);
        }
    }
}
