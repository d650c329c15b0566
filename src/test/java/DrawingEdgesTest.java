/** Promises 1 to 7, each sentence that names an edge: at it and beside it. */
public final class DrawingEdgesTest {
    private static final Due due = new Due("drawing edges");

    public static void main(String[] args) {
        newObject();
        newObjectsAreApart();
        drawsCountsWhatWasNot();
        drawsUpToSeven();
        rubsCountsWhatWas();
        rubsUpToSeven();
        movesByNothing();
        movesToEachEdge();
        movesBeyond();
        movesTheWholeLayerAlone();
        meansSix();
        meansSidesAlike();
        pinsSix();
        pinsAnywhere();
        forgetsBoth();
        due.end();
    }

    /** "As told; nothing is drawn, nothing MEANT." */
    private static void newObject() {
        DrawnGates x = new DrawnGates();
        for (int l = 0; l < 4; l++) {
            due.is("nothing to rub of layer " + l, new DrawnGates().rubs(l, 0, 0, 8, 8), 0);
            due.is("nothing to move of layer " + l, new DrawnGates().moves(l, 0, 0), 0);
        }
        due.is("nothing to forget", new DrawnGates().forgets(), 0);
        for (int n = 0; n < 10; n++) {
            due.is("net " + n, x.net(n), DrawnGates.NONE);
            due.is("hangs " + n, x.hangs(n), 0);
        }
        for (int what = 0; what < 5; what++) {
            due.is("told " + what, x.told(what), 0);
        }
        due.is("empty text", x.clear(), 0);
        due.is("no state", x.back(), DrawnGates.NO);
    }

    private static void newObjectsAreApart() {
        DrawnGates one = new DrawnGates();
        DrawnGates other = new DrawnGates();
        one.draws(0, 0, 0, 8, 8);
        one.means(0, 1, 2);
        one.pins(0, 0, 0);
        one.type('f');
        one.told(9);
        due.is("the other's digest", other.digest(), new DrawnGates().digest());
    }

    /** "how many were not": none of them, some, all 64. */
    private static void drawsCountsWhatWasNot() {
        for (int l = 0; l < 4; l++) {
            DrawnGates x = new DrawnGates();
            due.is("all but the last column", x.draws(l, 0, 0, 7, 8), 56);
            due.is("all: the rest of them", x.draws(l, 0, 0, 8, 8), 8);
            due.is("all again", x.draws(l, 0, 0, 8, 8), 0);
            due.is("in another layer", x.draws((l + 1) % 4, 0, 0, 8, 8), 64);
        }
    }

    /** "BAD: beyond 7, too": a box that ends at 7 is drawn, all of it and no more. */
    private static void drawsUpToSeven() {
        DrawnGates x = new DrawnGates();
        due.is("the last cell", x.draws(2, 7, 7, 1, 1), 1);
        due.is("it is cell 63", x.at(2, 7, 7), 1);
        due.refused("wider", x, DrawnGates.BAD, () -> x.draws(2, 7, 7, 2, 1));
        due.refused("higher", x, DrawnGates.BAD, () -> x.draws(2, 7, 7, 1, 2));
        due.is("from 5 on to 7", x.draws(2, 5, 2, 3, 1), 3);
        due.is("4 is not of it", x.at(2, 4, 2), 0);
        due.is("5 is", x.at(2, 5, 2), 1);
        due.is("7 is", x.at(2, 7, 2), 1);
        due.is("nothing goes on in the next row", x.at(2, 0, 3), 0);
        due.refused("one too wide", x, DrawnGates.BAD, () -> x.draws(2, 5, 2, 4, 1));
        due.is("down from 5 to 7", x.draws(2, 2, 5, 1, 3), 3);
        due.is("above it", x.at(2, 2, 4), 0);
        due.is("its first", x.at(2, 2, 5), 1);
        due.is("its last", x.at(2, 2, 7), 1);
        due.is("nothing goes on above", x.at(2, 2, 0), 0);
        due.refused("one too high", x, DrawnGates.BAD, () -> x.draws(2, 2, 5, 1, 4));
        due.refused("far too wide", x, DrawnGates.BAD, () -> x.draws(2, 1, 1, Integer.MAX_VALUE, 1));
        due.refused("far too high", x, DrawnGates.BAD, () -> x.draws(2, 1, 1, 1, Integer.MAX_VALUE));
    }

    /** "how many were drawn": none of them, some, all 64. */
    private static void rubsCountsWhatWas() {
        for (int l = 0; l < 4; l++) {
            DrawnGates x = new DrawnGates();
            due.is("nothing there", x.rubs(l, 0, 0, 8, 8), 0);
            x.draws(l, 0, 0, 8, 8);
            x.draws((l + 1) % 4, 0, 0, 8, 8);
            due.is("one", x.rubs(l, 0, 0, 1, 1), 1);
            due.is("all: the rest of them", x.rubs(l, 0, 0, 8, 8), 63);
            due.is("all again", x.rubs(l, 0, 0, 8, 8), 0);
            due.is("another layer has its own", x.rubs((l + 1) % 4, 0, 0, 8, 8), 64);
        }
    }

    private static void rubsUpToSeven() {
        DrawnGates x = new DrawnGates();
        x.draws(1, 0, 0, 8, 8);
        due.refused("wider", x, DrawnGates.BAD, () -> x.rubs(1, 7, 7, 2, 1));
        due.refused("higher", x, DrawnGates.BAD, () -> x.rubs(1, 7, 7, 1, 2));
        due.is("nothing was rubbed out", x.at(1, 7, 7), 1);
        due.is("the last cell", x.rubs(1, 7, 7, 1, 1), 1);
        due.is("it is gone", x.at(1, 7, 7), 0);
        due.is("the one beside it is not", x.at(1, 6, 7), 1);
        due.is("the one above it is not", x.at(1, 7, 6), 1);
        due.is("from 5, 2 on to 7, 3", x.rubs(1, 5, 2, 3, 2), 6);
        due.is("left of it", x.at(1, 4, 2), 1);
        due.is("its first", x.at(1, 5, 2), 0);
        due.is("its last", x.at(1, 7, 3), 0);
        due.is("below it", x.at(1, 7, 4), 1);
        due.is("nothing goes on in the next row", x.at(1, 0, 3), 1);
    }

    private static void movesByNothing() {
        DrawnGates x = Sketch.of("d.......", "........", "........", "........",
            "........", "........", "........", ".......d");
        due.is("moves by 0, 0", x.moves(0, 0, 0), 2);
        due.is("first stays", x.at(0, 0, 0), 1);
        due.is("last stays", x.at(0, 7, 7), 1);
        due.is("of an empty layer", x.moves(1, 7, -7), 0);
    }

    /** "(-7 .. 7 each)": from one corner just to the other, both ways, each way alone. */
    private static void movesToEachEdge() {
        int[][] steps = {{7, 7}, {-7, -7}, {7, 0}, {0, 7}, {-7, 0}, {0, -7}, {7, -7}, {-7, 7}};
        for (int l = 0; l < 4; l++) {
            for (int[] s : steps) {
                int fromX = s[0] < 0 ? 7 : 0;
                int fromY = s[1] < 0 ? 7 : 0;
                DrawnGates x = new DrawnGates();
                x.draws(l, fromX, fromY, 1, 1);
                due.is("one is left", x.moves(l, s[0], s[1]), 1);
                due.is("not where it was", x.at(l, fromX, fromY), 0);
                due.is("where it came", x.at(l, fromX + s[0], fromY + s[1]), 1);
                due.is("all of a full layer", x.draws(l, 0, 0, 8, 8), 63);
                int left = (8 - Math.abs(s[0])) * (8 - Math.abs(s[1]));
                due.is("is left of it", x.moves(l, s[0], s[1]), left);
            }
        }
    }

    /** "what comes beyond is gone": it comes out nowhere else, and does not come back. */
    private static void movesBeyond() {
        int[][] steps = {{1, 0}, {-1, 0}, {0, 1}, {0, -1}};
        for (int[] s : steps) {
            DrawnGates x = new DrawnGates();
            int edgeX = s[0] > 0 ? 7 : 0;
            int edgeY = s[1] > 0 ? 7 : 0;
            x.draws(3, s[0] == 0 ? 0 : edgeX, s[1] == 0 ? 0 : edgeY, s[0] == 0 ? 8 : 1, s[1] == 0 ? 8 : 1);
            due.is("all of the edge comes beyond", x.moves(3, s[0], s[1]), 0);
            due.is("nothing is there", x.draws(3, 0, 0, 8, 8), 64);
            due.is("of a full layer seven lines are left", x.moves(3, s[0], s[1]), 56);
            due.is("they come back, no other", x.moves(3, -s[0], -s[1]), 56);
        }
    }

    private static void movesTheWholeLayerAlone() {
        DrawnGates x = new DrawnGates();
        for (int l = 0; l < 4; l++) {
            x.draws(l, 2, 3, 2, 1);
        }
        x.means(0, 1, 2);
        x.pins(2, 3, 4);
        due.is("moves metal", x.moves(2, 3, -1), 2);
        due.is("metal there", x.at(2, 5, 2) + x.at(2, 6, 2), 2);
        due.is("metal no more here", x.at(2, 2, 3) + x.at(2, 3, 3), 0);
        due.is("diffusion stays", x.at(0, 2, 3) + x.at(0, 3, 3), 2);
        due.is("poly stays", x.at(1, 2, 3) + x.at(1, 3, 3), 2);
        due.is("cuts stay", x.at(3, 2, 3) + x.at(3, 3, 3), 2);
        due.is("the pin stays, without metal", x.pin(0, 0) * 10 + x.pin(0, 1), 23);
        due.is("its node", x.pin(0, 3), DrawnGates.NONE);
    }

    /** "BAD; FULL: 6." */
    private static void meansSix() {
        DrawnGates x = new DrawnGates();
        for (int i = 0; i < 6; i++) {
            due.is("its number", x.means(i, 9 - i, 3), i);
            due.is("so many", x.count(4), i + 1);
        }
        due.refused("a seventh", x, DrawnGates.FULL, () -> x.means(8, 8, 8));
        due.is("the sixth stays: gate", x.device(5, 0), 5);
        due.is("the sixth stays: a", x.device(5, 1), 4);
        due.is("the sixth stays: b", x.device(5, 2), 3);
        due.is("the first stays", x.device(0, 1), 9);
        due.is("net 8 hangs as before", x.hangs(8), 1);
        due.is("pins are apart", x.pins(0, 0, 0), 0);
        x.back();
        due.is("a state back", x.back(), 3);
        due.is("one can come again", x.means(7, 7, 7), 5);
        due.refused("but no more", x, DrawnGates.FULL, () -> x.means(7, 7, 7));
        x.forgets();
        due.is("forgotten: the first again", x.means(6, 6, 6), 0);
    }

    /** "two for the sides (perhaps alike)", and the gate's, too. */
    private static void meansSidesAlike() {
        DrawnGates x = new DrawnGates();
        due.is("sides alike", x.means(0, 9, 9), 0);
        due.is("all alike", x.means(9, 9, 9), 1);
        due.is("as one before", x.means(9, 9, 9), 2);
        due.is("all least", x.means(0, 0, 0), 3);
    }

    /** "BAD; FULL: 6." */
    private static void pinsSix() {
        DrawnGates x = new DrawnGates();
        for (int i = 0; i < 6; i++) {
            due.is("its number", x.pins(i, 7 - i, 9 - i), i);
            due.is("so many", x.count(5), i + 1);
        }
        due.refused("a seventh", x, DrawnGates.FULL, () -> x.pins(7, 7, 0));
        due.is("the sixth stays", x.pin(5, 0) * 100 + x.pin(5, 1) * 10 + x.pin(5, 2), 524);
        due.is("the first stays", x.pin(0, 0) * 100 + x.pin(0, 1) * 10 + x.pin(0, 2), 79);
        due.is("devices are apart", x.means(0, 0, 0), 0);
        x.back();
        due.is("a state back", x.back(), 3);
        due.is("one can come again", x.pins(1, 1, 1), 5);
        due.refused("but no more", x, DrawnGates.FULL, () -> x.pins(1, 1, 1));
        x.forgets();
        due.is("forgotten: the first again", x.pins(2, 2, 2), 0);
    }

    /** A PIN needs no METAL, nor a CELL or a NET of its own. */
    private static void pinsAnywhere() {
        DrawnGates x = new DrawnGates();
        due.is("where nothing is", x.pins(0, 0, 0), 0);
        due.is("there again", x.pins(0, 0, 0), 1);
        due.is("at the last cell", x.pins(7, 7, 9), 2);
        due.is("its x", x.pin(2, 0), 7);
        due.is("its y", x.pin(2, 1), 7);
        due.is("its net", x.pin(2, 2), 9);
    }

    /** "how many there were, both together": 0, one of either, 12. */
    private static void forgetsBoth() {
        DrawnGates x = new DrawnGates();
        due.is("none", x.forgets(), 0);
        x.means(0, 1, 2);
        due.is("a device", x.forgets(), 1);
        x.pins(0, 0, 0);
        due.is("a pin", x.forgets(), 1);
        for (int i = 0; i < 6; i++) {
            x.means(i, i, i);
            x.pins(i, i, i);
        }
        x.draws(2, 0, 0, 8, 8);
        x.type('f');
        due.is("twelve", x.forgets(), 12);
        due.is("no device", x.count(4), 0);
        due.is("no pin", x.count(5), 0);
        due.is("net 5 hangs no more", x.hangs(5), 0);
        due.is("metal stays", x.at(2, 7, 7), 1);
        due.is("the text stays", x.told(3), 1);
        due.is("again none", x.forgets(), 0);
    }
}
