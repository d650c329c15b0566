/** Promises 20 to 25: type, clear, does, back, told, digest. */
public final class TextsTest {
    private static final Due due = new Due("texts");

    public static void main(String[] args) {
        typing();
        faults();
        orders();
        refusedOrders();
        oneStateForAll();
        going();
        fiveStates();
        tolds();
        digests();
        due.end();
    }

    private static void typing() {
        DrawnGates x = new DrawnGates();
        due.is("clear of nothing", x.clear(), 0);
        due.is("type 0", x.type(0), 1);
        due.is("type 127", x.type(127), 2);
        due.is("type 128", x.type(128), DrawnGates.BAD);
        due.is("type -1", x.type(-1), DrawnGates.BAD);
        due.is("type far", x.type(Integer.MIN_VALUE), DrawnGates.BAD);
        for (int i = 3; i <= 150; i++) {
            due.is("type " + i, x.type(32), i);
        }
        due.is("one more", x.type(32), DrawnGates.FULL);
        due.is("BAD before FULL", x.type(128), DrawnGates.BAD);
        due.is("told FULL", x.told(2), 1);
        due.is("told BAD", x.told(0), 4);
        due.is("no states", x.told(4), 0);
        due.is("clear", x.clear(), 150);
        due.is("clear again", x.clear(), 0);
        due.is("type anew", x.type(32), 1);
    }

    private static void faults() {
        DrawnGates x = new DrawnGates();
        String[] texts = {
            "", "   ", "f", "f ", "f;", ";", "ff;", "f;;", "f;x", "f;d00011", "f; d 0 0 0 1 1", "d00011;", "d000111;",
            "d0001;", "d 0 a 0 1 1;", "m12;", "m1234;", "p 0 0 0 0;", "p00 0;q", "D00011;", "f\t;", "0;", " f ; ;",
            "r0 0 011 ;  ", "f0;", "m 1 2 -3;", "d00011:", "f;r0001"
        };
        int[] places = {
            0, 3, 1, 2, -1, 0, 1, 2, 2, 8, 14, -1, 6,
            5, 4, 3, 4, 8, 6, 0, 1, 0, 5,
            -1, 1, 6, 6, 7
        };
        for (int i = 0; i < texts.length; i++) {
            int answer = Due.does(x, texts[i]);
            if (places[i] < 0) {
                due.is("does '" + texts[i] + "'", answer, 1);
            } else {
                due.is("does '" + texts[i] + "'", answer, -10 - places[i]);
            }
        }
        due.is("states of the three without fault", x.told(4), 3);
        due.is("nothing counted", x.told(0) + x.told(1) + x.told(2), 0);
        x.clear();
        for (int i = 0; i < 149; i++) {
            x.type(' ');
        }
        x.type('f');
        due.is("a fault at the very end", x.does(), -160);
    }

    private static void orders() {
        DrawnGates x = new DrawnGates();
        due.is("draws and rubs", Due.does(x, "d 2 1 2 3 4;r 2 2 3 1 1;"), 2);
        due.is("corner", x.at(2, 1, 2), 1);
        due.is("other corner", x.at(2, 3, 5), 1);
        due.is("hole", x.at(2, 2, 3), 0);
        due.is("beyond", x.at(2, 4, 5), 0);
        due.is("means and pins", Due.does(x, "m789;p124;"), 2);
        due.is("device", x.device(0, 0) * 100 + x.device(0, 1) * 10 + x.device(0, 2), 789);
        due.is("pin", x.pin(0, 0) * 100 + x.pin(0, 1) * 10 + x.pin(0, 2), 124);
        due.is("again, the text stays", x.does(), 2);
        due.is("bytes", x.told(3), 10);
        due.is("devices", x.count(4), 2);
        due.is("forgets among others", Due.does(x, "m000;f;m111;"), 3);
        due.is("devices then", x.count(4), 1);
        due.is("device 0", x.device(0, 0), 1);
        due.is("states", x.told(4), 4);
    }

    private static void refusedOrders() {
        DrawnGates x = new DrawnGates();
        due.is("the first", Due.does(x, "d00090;d00011;"), -1000);
        due.is("the third", Due.does(x, "d00011;m123;r00099;"), -1002);
        due.is("nothing is drawn", x.at(0, 0, 0), 0);
        due.is("nothing meant", x.count(4), 0);
        due.is("FULL in a text", Due.does(x, "m000;m000;m000;m000;m000;m000;m000;"), -1006);
        due.is("not FULL with f", Due.does(x, "m000;m000;m000;m000;m000;m000;f;m000;"), 8);
        due.is("a fault comes before a refusal", Due.does(x, "d90000;x"), -17);
        due.is("pins FULL", Due.does(x, "p000;p000;p000;p000;p000;p000;p000;"), -1006);
        due.is("pins BAD", Due.does(x, "p080;"), -1000);
        due.is("nothing counted", x.told(0) + x.told(1) + x.told(2), 0);
        due.is("states", x.told(4), 1);
        due.is("pins", x.count(5), 0);
        due.is("ways after it", x.ways(), 0);
    }

    private static void oneStateForAll() {
        DrawnGates x = new DrawnGates();
        Due.does(x, "d00388;");
        due.is("beyond 7", x.told(4), 0);
        Due.does(x, "d00381;d12015;m012;");
        due.is("ways", x.ways(), 2);
        due.is("states", x.told(4), 1);
        due.is("back", x.back(), 0);
        due.is("ways then", x.ways(), 1);
        due.is("drawn then", x.at(0, 0, 3), 0);
        due.is("the text stays", x.told(3), 19);
    }

    private static void going() {
        DrawnGates x = new DrawnGates();
        x.draws(0, 0, 3, 8, 1);
        x.draws(1, 2, 1, 1, 5);
        x.means(0, 1, 2);
        due.is("ways", x.ways(), 2);
        x.moves(1, 7, 0);
        due.is("ways of none", x.ways(), 0);
        x.gate(0, 0);
        due.is("back of moves", x.back(), 3);
        due.is("refusals stay", x.told(0), 1);
        due.is("ways again", x.ways(), 2);
        due.is("back of means", x.back(), 2);
        due.is("no device", x.count(4), 0);
        due.is("a new state", x.forgets(), 0);
        due.is("told", x.told(4), 3);
        due.is("back of forgets", x.back(), 2);
        due.is("back of poly", x.back(), 1);
        due.is("at", x.at(1, 2, 1), 0);
        due.is("back of all", x.back(), 0);
        due.is("at 0", x.at(0, 0, 3), 0);
        due.is("no more", x.back(), DrawnGates.NO);
        due.is("told NO", x.told(1), 1);
    }

    private static void fiveStates() {
        DrawnGates x = new DrawnGates();
        for (int i = 0; i < 8; i++) {
            x.draws(0, i, 0, 1, 1);
            due.is("states", x.told(4), Math.min(i + 1, 5));
        }
        for (int i = 7; i >= 3; i--) {
            due.is("back", x.back(), i - 3);
            due.is("gone", x.at(0, i, 0), 0);
            due.is("still there", x.at(0, i - 1, 0), 1);
        }
        due.is("older ones are lost", x.back(), DrawnGates.NO);
        x.draws(9, 0, 0, 1, 1);
        due.is("refused: no state", x.told(4), 0);
        x.draws(0, 2, 0, 1, 1);
        due.is("nothing became other: a state", x.told(4), 1);
    }

    private static void tolds() {
        DrawnGates x = new DrawnGates();
        due.is("what 5", x.told(5), DrawnGates.BAD);
        due.is("what -1", x.told(-1), DrawnGates.BAD);
        due.is("what far", x.told(Integer.MAX_VALUE), DrawnGates.BAD);
        due.is("BAD", x.told(0), 3);
        x.back();
        x.back();
        due.is("NO", x.told(1), 2);
        for (int i = 0; i < 7; i++) {
            x.pins(0, 0, 0);
        }
        due.is("FULL", x.told(2), 1);
        x.type('f');
        due.is("bytes", x.told(3), 1);
        due.is("states", x.told(4), 5);
    }

    private static void digests() {
        DrawnGates x = new DrawnGates();
        due.is("of a new one", x.digest(), digestOf(x, 0));
        x = gateAndCorner();
        long corner = 1L << 63;
        due.is("without a match", x.digest(), digestOf(x, corner));
        x = gateAndCorner();
        x.means(3, 4, 5);
        x.pins(7, 7, 9);
        x.type(200);
        x.type(32);
        due.is("with a match", x.digest(), digestOf(x, corner));
        due.is("a match there", x.ways(), 2);
        long once = x.digest();
        due.is("changes nothing", x.digest(), once);
    }

    private static DrawnGates gateAndCorner() {
        DrawnGates x = new DrawnGates();
        x.draws(0, 0, 3, 8, 1);
        x.draws(1, 2, 1, 1, 5);
        x.draws(2, 7, 7, 1, 1);
        return x;
    }

    /** The digest put together from getters; the metal's cells are given, as no getter tells bit 63. */
    private static long digestOf(DrawnGates x, long metal) {
        long h = 1682;
        for (int what = 0; what < 5; what++) {
            h = 31 * h + x.told(what);
        }
        for (int what = 0; what < 9; what++) {
            h = 31 * h + x.count(what);
        }
        long[] layers = {cellsOf(x, 0), cellsOf(x, 1), metal, cellsOf(x, 3)};
        for (long layer : layers) {
            h = 31 * h + layer;
        }
        for (int i = 0; i < x.count(1); i++) {
            for (int what = 0; what < 6; what++) {
                h = 31 * h + x.gate(i, what);
            }
        }
        for (int n = 0; n < x.count(0); n++) {
            h = 31 * (31 * h + x.wire(n, 0)) + x.wire(n, 1);
        }
        h = 31 * h + x.ways();
        if (x.ways() > 0) {
            for (int i = 0; i < x.count(4); i++) {
                h = 31 * h + x.matched(i);
            }
            for (int n = 0; n < 10; n++) {
                h = 31 * h + x.net(n);
            }
        }
        return h;
    }

    private static long cellsOf(DrawnGates x, int l) {
        long cells = 0;
        for (int c = 0; c < 64; c++) {
            cells |= (long) x.at(l, c % 8, c / 8) << c;
        }
        return cells;
    }
}
