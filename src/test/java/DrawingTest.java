/** Promises 1 to 7: a new object, draws, rubs, moves, means, pins, forgets. */
public final class DrawingTest {
    private static final int[] WILD = {-1, Integer.MIN_VALUE, Integer.MAX_VALUE};
    private static final Due due = new Due("drawing");

    public static void main(String[] args) {
        newObject();
        draws();
        rubs();
        moves();
        means();
        pins();
        forgets();
        wildNumbers();
        due.end();
    }

    private static void newObject() {
        DrawnGates x = new DrawnGates();
        for (int l = 0; l < 4; l++) {
            for (int c = 0; c < 64; c++) {
                due.is("new: at", x.at(l, c % 8, c / 8), 0);
            }
        }
        for (int what = 0; what <= 8; what++) {
            due.is("new: count(" + what + ")", x.count(what), 0);
        }
        for (int what = 0; what <= 4; what++) {
            due.is("new: told(" + what + ")", x.told(what), 0);
        }
        due.is("new: ways()", x.ways(), 1);
        due.is("new: net(9)", x.net(9), DrawnGates.NONE);
        due.is("new: back()", x.back(), DrawnGates.NO);
    }

    private static void draws() {
        DrawnGates x = new DrawnGates();
        due.is("draws one", x.draws(0, 7, 7, 1, 1), 1);
        due.is("draws it again", x.draws(0, 7, 7, 1, 1), 0);
        due.is("draws over it", x.draws(0, 6, 6, 2, 2), 3);
        due.is("draws all", x.draws(0, 0, 0, 8, 8), 60);
        due.is("draws another layer", x.draws(3, 2, 5, 3, 2), 6);
        due.is("at 2 5", x.at(3, 2, 5), 1);
        due.is("at 4 6", x.at(3, 4, 6), 1);
        due.is("at 5 6", x.at(3, 5, 6), 0);
        due.is("at 4 7", x.at(3, 4, 7), 0);
        due.is("at 1 5", x.at(3, 1, 5), 0);
        due.is("at 2 4", x.at(3, 2, 4), 0);
        due.is("layer 1 is free", x.at(1, 2, 5), 0);
        due.is("states, also where nothing changed", x.told(4), 5);
        due.is("beyond by width", x.draws(0, 1, 0, 8, 1), DrawnGates.BAD);
        due.is("beyond by height", x.draws(0, 0, 7, 1, 2), DrawnGates.BAD);
        due.is("no width", x.draws(0, 0, 0, 0, 1), DrawnGates.BAD);
        due.is("no height", x.draws(0, 0, 0, 1, 0), DrawnGates.BAD);
        due.is("width 9", x.draws(0, 0, 0, 9, 1), DrawnGates.BAD);
        due.is("layer 4", x.draws(4, 0, 0, 1, 1), DrawnGates.BAD);
        due.is("x 8", x.draws(0, 8, 0, 1, 1), DrawnGates.BAD);
        due.is("y 8", x.draws(0, 0, 8, 1, 1), DrawnGates.BAD);
        due.is("refused so often", x.told(0), 8);
    }

    private static void rubs() {
        DrawnGates x = new DrawnGates();
        due.is("rubs nothing", x.rubs(2, 0, 0, 8, 8), 0);
        x.draws(2, 1, 1, 3, 3);
        due.is("rubs a part", x.rubs(2, 2, 2, 6, 6), 4);
        due.is("rubs it again", x.rubs(2, 2, 2, 6, 6), 0);
        due.is("left", x.at(2, 1, 3), 1);
        due.is("gone", x.at(2, 2, 2), 0);
        due.is("another layer", x.rubs(1, 0, 0, 8, 8), 0);
        due.is("the rest", x.rubs(2, 0, 0, 8, 8), 5);
        due.is("beyond", x.rubs(2, 7, 7, 2, 1), DrawnGates.BAD);
        due.is("beyond below", x.rubs(2, 7, 7, 1, 2), DrawnGates.BAD);
        due.is("layer -1", x.rubs(-1, 0, 0, 1, 1), DrawnGates.BAD);
        due.is("height 9", x.rubs(0, 0, 0, 1, 9), DrawnGates.BAD);
        due.is("states", x.told(4), 5);
    }

    private static void moves() {
        DrawnGates x = new DrawnGates();
        x.draws(1, 6, 6, 2, 2);
        due.is("moves by nothing", x.moves(1, 0, 0), 4);
        due.is("moves right, half beyond", x.moves(1, 1, 0), 2);
        due.is("at 7 6", x.at(1, 7, 6), 1);
        due.is("not around the edge", x.at(1, 0, 7), 0);
        due.is("moves left", x.moves(1, -7, 0), 2);
        due.is("at 0 6", x.at(1, 0, 6), 1);
        due.is("at 0 7", x.at(1, 0, 7), 1);
        due.is("moves left, all beyond", x.moves(1, -1, 0), 0);
        due.is("states", x.told(4), 5);
        x.draws(3, 0, 0, 8, 8);
        due.is("moves both ways", x.moves(3, 7, -7), 1);
        due.is("at 7 0", x.at(3, 7, 0), 1);
        due.is("moves down", x.moves(3, -3, 5), 1);
        due.is("at 4 5", x.at(3, 4, 5), 1);
        due.is("other layers stay", x.draws(0, 0, 0, 1, 1) + x.moves(3, 1, 1) + x.at(0, 0, 0), 3);
        due.is("x 8", x.moves(3, 8, 0), DrawnGates.BAD);
        due.is("x -8", x.moves(3, -8, 0), DrawnGates.BAD);
        due.is("y 8", x.moves(3, 0, 8), DrawnGates.BAD);
        due.is("y -8", x.moves(3, 0, -8), DrawnGates.BAD);
        due.is("layer 4", x.moves(4, 0, 0), DrawnGates.BAD);
        due.is("still there", x.at(3, 5, 6), 1);
    }

    private static void means() {
        DrawnGates x = new DrawnGates();
        for (int i = 0; i < 6; i++) {
            due.is("means " + i, x.means(i, 9 - i, 9), i);
        }
        due.is("a seventh", x.means(0, 0, 0), DrawnGates.FULL);
        due.is("BAD before FULL", x.means(0, 0, 10), DrawnGates.BAD);
        due.is("count", x.count(4), 6);
        due.is("refused FULL", x.told(2), 1);
        due.is("refused BAD", x.told(0), 1);
        due.is("states, five at most", x.told(4), 5);
        due.is("gate 10", x.means(10, 0, 0), DrawnGates.BAD);
        due.is("side 10", x.means(0, 10, 0), DrawnGates.BAD);
    }

    private static void pins() {
        DrawnGates x = new DrawnGates();
        for (int i = 0; i < 6; i++) {
            due.is("pins " + i, x.pins(i + 2, 7, 9), i);
        }
        due.is("a seventh", x.pins(0, 0, 0), DrawnGates.FULL);
        due.is("BAD before FULL", x.pins(0, 8, 0), DrawnGates.BAD);
        due.is("count", x.count(5), 6);
        due.is("refused FULL", x.told(2), 1);
        due.is("x 8", x.pins(8, 0, 0), DrawnGates.BAD);
        due.is("net 10", x.pins(0, 0, 10), DrawnGates.BAD);
        due.is("refused BAD", x.told(0), 3);
    }

    private static void forgets() {
        DrawnGates x = new DrawnGates();
        due.is("forgets nothing", x.forgets(), 0);
        due.is("a state all the same", x.told(4), 1);
        x.draws(0, 0, 0, 1, 1);
        x.means(1, 2, 3);
        x.means(1, 2, 3);
        x.pins(0, 0, 0);
        due.is("forgets all", x.forgets(), 3);
        due.is("devices", x.count(4), 0);
        due.is("pins", x.count(5), 0);
        due.is("drawn stays", x.at(0, 0, 0), 1);
        due.is("numbers begin anew", x.means(4, 5, 6), 0);
        due.is("pins, too", x.pins(4, 5, 6), 0);
    }

    private static void wildNumbers() {
        DrawnGates x = new DrawnGates();
        int times = 0;
        for (int w : WILD) {
            due.is("draws l", x.draws(w, 0, 0, 1, 1), DrawnGates.BAD);
            due.is("draws x", x.draws(0, w, 0, 1, 1), DrawnGates.BAD);
            due.is("draws y", x.draws(0, 0, w, 1, 1), DrawnGates.BAD);
            due.is("draws w", x.draws(0, 1, 1, w, 1), DrawnGates.BAD);
            due.is("draws h", x.draws(0, 1, 1, 1, w), DrawnGates.BAD);
            due.is("rubs w", x.rubs(0, 7, 7, w, 1), DrawnGates.BAD);
            due.is("rubs h", x.rubs(0, 7, 7, 1, w), DrawnGates.BAD);
            due.is("moves l", x.moves(w, 0, 0), DrawnGates.BAD);
            due.is("means g", x.means(w, 0, 0), DrawnGates.BAD);
            due.is("means a", x.means(0, w, 0), DrawnGates.BAD);
            due.is("means b", x.means(0, 0, w), DrawnGates.BAD);
            due.is("pins x", x.pins(w, 0, 0), DrawnGates.BAD);
            due.is("pins y", x.pins(0, w, 0), DrawnGates.BAD);
            due.is("pins n", x.pins(0, 0, w), DrawnGates.BAD);
            times += 14;
        }
        due.is("moves far", x.moves(0, Integer.MIN_VALUE, Integer.MAX_VALUE), DrawnGates.BAD);
        due.is("all counted", x.told(0), times + 1);
        due.is("no states", x.told(4), 0);
    }
}
