import java.util.function.IntSupplier;

/** STATES, what is refused and how often, the digest; promises 23 to 25: each edge, at it and beside it. */
public final class StatesEdgesTest {
    private static final int NONE = DrawnGates.NONE, BAD = DrawnGates.BAD, NO = DrawnGates.NO, FULL = DrawnGates.FULL;
    private static final Due due = new Due("states edges");

    public static void main(String[] args) {
        eachCallToldS();
        alsoIfNothingBecomesOther();
        noneByOtherCalls();
        noneByRefusedCalls();
        fiveAtMost();
        howManyCanBeYet();
        backToEachPart();
        backTakesNoTextAndNoCounts();
        backAndOnAgain();
        badGoesFirst();
        refusedChangesNothing();
        refusedOnceEach();
        nothingCountsByDoes();
        typeCountsAsAnyCall();
        toldOfEach();
        digestOfANewObject();
        digestOfLayers();
        digestWithoutAMatch();
        digestWithAMatch();
        digestOfTwoDevices();
        digestChangesNothing();
        due.end();
    }

    private interface Call {
        int on(DrawnGates x);
    }

    /** "each call told S, if it is not refused, leaves one .. to go back to". */
    private static void eachCallToldS() {
        Call[] calls = {
            x -> x.draws(0, 0, 0, 3, 3), x -> x.rubs(0, 0, 0, 1, 1), x -> x.moves(0, 1, 0), x -> x.means(3, 4, 5),
            x -> x.pins(1, 0, 9), x -> x.forgets(), x -> x.does()
        };
        for (int i = 0; i < calls.length; i++) {
            DrawnGates x = new DrawnGates();
            due.is("something to change", Due.does(x, "d00021;m012;p000;"), 3);
            long before = x.digest();
            due.is("call " + i + " is refused", calls[i].on(x) < 0 ? 1 : 0, 0);
            due.is("call " + i + " changes nothing", x.digest() == before ? 1 : 0, 0);
            due.is("states behind call " + i, x.told(4), 2);
            due.is("back", x.back(), 1);
            due.is("all is as it was", x.digest(), before);
        }
    }

    /** "also if nothing becomes other by it". */
    private static void alsoIfNothingBecomesOther() {
        DrawnGates x = new DrawnGates();
        due.is("rubs nothing", x.rubs(0, 0, 0, 8, 8), 0);
        due.is("states 1", x.told(4), 1);
        due.is("moves nothing", x.moves(1, 3, 3), 0);
        due.is("states 2", x.told(4), 2);
        due.is("forgets nothing", x.forgets(), 0);
        due.is("states 3", x.told(4), 3);
        Due.type(x, "f;");
        due.is("does nothing", x.does(), 1);
        due.is("states 4", x.told(4), 4);
        due.is("back 3", x.back(), 3);
        x.draws(2, 0, 0, 1, 1);
        due.is("draws what is", x.draws(2, 0, 0, 1, 1), 0);
        due.is("states 5", x.told(4), 5);
        due.is("back by what changed nothing", x.back(), 4);
        due.is("it is there", x.at(2, 0, 0), 1);
        due.is("back by what changed it", x.back(), 3);
        due.is("it is not there", x.at(2, 0, 0), 0);
    }

    /** Getters, type, clear and back are not told S. */
    private static void noneByOtherCalls() {
        DrawnGates x = new DrawnGates();
        x.draws(2, 0, 0, 1, 1);
        IntSupplier[] calls = {
            () -> x.at(0, 0, 0), () -> x.node(0, 0, 0), () -> x.count(0), () -> x.count(8), () -> x.gateAt(0, 0), x::ways,
            () -> x.wire(0, 0), () -> x.net(0), () -> x.hangs(0), () -> x.told(0), () -> (int) x.digest(),
            () -> x.type('f'), x::clear
        };
        for (int i = 0; i < calls.length; i++) {
            calls[i].getAsInt();
            due.is("states behind call " + i, x.told(4), 1);
        }
        DrawnGates y = Sketch.of("dgx");
        y.means(0, 1, 2);
        y.pins(2, 0, 2);
        y.gate(0, 0);
        y.matched(0);
        y.device(0, 0);
        y.pin(0, 0);
        due.is("states behind getters of what is", y.told(4), 5);
        due.is("back", y.back(), 4);
        due.is("goes behind the pin", y.count(5), 0);
        due.is("back leaves none", y.back(), 3);
        due.is("but goes further", y.count(4), 0);
    }

    private static void noneByRefusedCalls() {
        DrawnGates x = new DrawnGates();
        x.draws(4, 0, 0, 1, 1);
        x.rubs(0, 0, 0, 9, 1);
        x.moves(0, 8, 0);
        x.means(10, 0, 0);
        x.pins(8, 0, 0);
        x.does();
        Due.does(x, "d40011;");
        due.is("none", x.told(4), 0);
        due.refused("nothing to go back to", x, NO, x::back);
        for (int i = 0; i < 6; i++) {
            x.means(0, 0, 0);
        }
        for (int i = 0; i < 5; i++) {
            due.is("FULL", x.means(9, 9, 9), FULL);
        }
        due.is("FULL leaves none", x.back(), 4);
        due.is("back goes behind the sixth", x.count(4), 5);
    }

    private static int cellsOfRow(DrawnGates x, int l) {
        int cells = 0;
        for (int c = 0; c < 8; c++) {
            cells += x.at(l, c, 0);
        }
        return cells;
    }

    /** "5 at most, older ones lost". */
    private static void fiveAtMost() {
        for (int calls = 0; calls <= 8; calls++) {
            DrawnGates x = new DrawnGates();
            for (int i = 0; i < calls; i++) {
                x.draws(0, i, 0, 1, 1);
            }
            int states = Math.min(calls, 5);
            due.is("states of " + calls, x.told(4), states);
            for (int left = states - 1; left >= 0; left--) {
                due.is("back", x.back(), left);
                due.is("cells then", cellsOfRow(x, 0), calls - states + left);
            }
            due.is("one more", x.back(), NO);
            due.is("what is left of " + calls, cellsOfRow(x, 0), calls - states);
        }
    }

    /** "how many can be yet. NO: none." */
    private static void howManyCanBeYet() {
        DrawnGates x = new DrawnGates();
        due.refused("none at first", x, NO, x::back);
        x.forgets();
        due.is("the last one", x.back(), 0);
        due.is("told", x.told(4), 0);
        due.refused("none any more", x, NO, x::back);
        due.refused("nor later", x, NO, x::back);
        due.is("told NO", x.told(1), 3);
    }

    /** A STATE is of all LAYERS, DEVICES and PINS. */
    private static void backToEachPart() {
        DrawnGates x = new DrawnGates();
        due.is("some orders", Due.does(x, "d00011;d11011;d22011;d33011;m123;p456;"), 6);
        String others = "r00011;r11011;r22011;r33011;d07711;d16711;d25711;d34711;f;m987;m654;p321;p210;";
        due.is("others", Due.does(x, others), 13);
        for (int l = 0; l < 4; l++) {
            due.is("layer " + l + " is other", x.at(l, l, 0) * 10 + x.at(l, 7 - l, 7), 1);
        }
        due.is("back", x.back(), 1);
        for (int l = 0; l < 4; l++) {
            due.is("layer " + l + " is as it was", x.at(l, l, 0) * 10 + x.at(l, 7 - l, 7), 10);
        }
        due.is("one device", x.count(4), 1);
        due.is("its nets", x.device(0, 0) * 100 + x.device(0, 1) * 10 + x.device(0, 2), 123);
        due.is("one pin", x.count(5), 1);
        due.is("its cell and net", x.pin(0, 0) * 100 + x.pin(0, 1) * 10 + x.pin(0, 2), 456);
        due.is("back to nothing", x.back(), 0);
        x.clear();
        due.is("is as a new object", x.digest(), new DrawnGates().digest());
    }

    /** "(all but THE TEXT and how often refused)". */
    private static void backTakesNoTextAndNoCounts() {
        DrawnGates x = new DrawnGates();
        x.draws(0, 0, 0, 1, 1);
        Due.type(x, "m012;");
        x.told(5);
        for (int i = 0; i < 150; i++) {
            x.type(' ');
        }
        due.is("back", x.back(), 0);
        due.is("bytes stay", x.told(3), 150);
        due.is("BAD stays", x.told(0), 1);
        due.is("NO stays", x.told(1), 0);
        due.is("FULL stays", x.told(2), 5);
        x.back();
        due.is("NO counts", x.told(1), 1);
        due.is("the text is what it was", x.does(), 1);
        due.is("its device", x.count(4), 1);
        x.clear();
        due.is("back of the text's", x.back(), 0);
        due.is("a cleared text does not come back", x.told(3), 0);
    }

    /** After some back, new STATES come behind those that are left. */
    private static void backAndOnAgain() {
        DrawnGates x = new DrawnGates();
        for (int i = 0; i < 6; i++) {
            x.draws(0, i, 0, 1, 1);
        }
        due.is("back", x.back(), 4);
        due.is("and back", x.back(), 3);
        for (int i = 0; i < 3; i++) {
            x.draws(1, i, 0, 1, 1);
        }
        due.is("five at most", x.told(4), 5);
        int[][] want = {{4, 2}, {4, 1}, {4, 0}, {3, 0}, {2, 0}};
        for (int i = 0; i < 5; i++) {
            due.is("back", x.back(), 4 - i);
            due.is("diffusion", cellsOfRow(x, 0), want[i][0]);
            due.is("poly", cellsOfRow(x, 1), want[i][1]);
        }
        due.is("no more", x.back(), NO);
    }

    /** "the first of: BAD ..; NO -3, FULL -4 as told". */
    private static void badGoesFirst() {
        DrawnGates x = new DrawnGates();
        for (int i = 0; i < 6; i++) {
            x.means(0, 1, 2);
            x.pins(0, 0, 0);
        }
        Due.type(x, " ".repeat(150));
        due.refused("means, FULL", x, FULL, () -> x.means(9, 9, 9));
        due.refused("means, g BAD", x, BAD, () -> x.means(10, 9, 9));
        due.refused("means, a BAD", x, BAD, () -> x.means(9, -1, 9));
        due.refused("means, b BAD", x, BAD, () -> x.means(9, 9, 10));
        due.refused("pins, FULL", x, FULL, () -> x.pins(7, 7, 9));
        due.refused("pins, x BAD", x, BAD, () -> x.pins(8, 7, 9));
        due.refused("pins, y BAD", x, BAD, () -> x.pins(7, -1, 9));
        due.refused("pins, n BAD", x, BAD, () -> x.pins(7, 7, 10));
        due.refused("type, FULL", x, FULL, () -> x.type(127));
        due.refused("type, BAD", x, BAD, () -> x.type(128));
        due.refused("type, BAD below", x, BAD, () -> x.type(-1));
        due.refused("matched, NO", x, NO, () -> x.matched(5));
        due.refused("matched, BAD", x, BAD, () -> x.matched(6));
        due.refused("matched, BAD below", x, BAD, () -> x.matched(-1));
        due.refused("net, NO", x, NO, () -> x.net(9));
        due.refused("net, BAD", x, BAD, () -> x.net(10));
        due.refused("net, BAD below", x, BAD, () -> x.net(-1));
    }

    /** "changing nothing but how often": what the digest does not show, either. */
    private static void refusedChangesNothing() {
        DrawnGates x = Sketch.of("dgd", "", "m");
        x.forgets();
        for (int i = 0; i < 6; i++) {
            x.means(i, i + 1, i + 2);
            x.pins(i, 2, i + 3);
        }
        x.draws(0, 7, 7, 1, 2);
        x.rubs(0, 0, 0, 0, 1);
        x.moves(0, 0, 8);
        x.means(9, 9, 9);
        x.means(9, 9, 10);
        x.pins(7, 7, 9);
        x.pins(7, 7, 10);
        for (int i = 0; i < 6; i++) {
            due.is("device " + i, x.device(i, 0) * 100 + x.device(i, 1) * 10 + x.device(i, 2), 111 * i + 12);
            due.is("pin " + i, x.pin(i, 0) * 100 + x.pin(i, 1) * 10 + x.pin(i, 2), 101 * i + 23);
        }
        due.is("the gate", x.gate(0, 3), 1);
        due.is("nothing drawn", x.at(0, 7, 7), 0);
        due.is("nothing rubbed out", x.at(0, 0, 0), 1);
        due.is("BAD", x.told(0), 5);
        due.is("FULL", x.told(2), 2);
        due.is("states", x.told(4), 5);
        due.is("the last is of the last pin", x.back(), 4);
        due.is("five pins then", x.count(5), 5);
    }

    /** "Refused (any call, getters, too)": each counts once, under its own kind alone. */
    private static void refusedOnceEach() {
        DrawnGates x = new DrawnGates();
        IntSupplier[] calls = {
            () -> x.draws(-1, -1, -1, 0, 0), () -> x.rubs(-1, -1, -1, 0, 0), () -> x.moves(-1, 8, 8), () -> x.means(-1, 10, -1),
            () -> x.pins(-1, 8, 10), () -> x.at(-1, 8, 8), () -> x.node(3, 8, 8), () -> x.count(9), () -> x.gateAt(8, 8),
            () -> x.gate(0, 6), () -> x.wire(0, 2), () -> x.matched(0), () -> x.net(10), () -> x.device(0, 3),
            () -> x.pin(0, 4), () -> x.hangs(10), () -> x.type(128), () -> x.told(5)
        };
        for (int i = 0; i < calls.length; i++) {
            due.is("call " + i, calls[i].getAsInt(), BAD);
            due.is("BAD so often", x.told(0), i + 1);
        }
        due.is("NO", x.told(1), 0);
        due.is("FULL", x.told(2), 0);
        x.back();
        due.is("NO once", x.told(1), 1);
        x.means(0, 1, 2);
        x.matched(0);
        due.is("NO twice", x.told(1), 2);
        x.net(0);
        due.is("NO thrice", x.told(1), 3);
        due.is("FULL not yet", x.told(2), 0);
        for (int i = 0; i < 6; i++) {
            x.means(0, 1, 2);
        }
        due.is("FULL once", x.told(2), 1);
        for (int i = 0; i < 7; i++) {
            x.pins(0, 0, 0);
        }
        due.is("FULL twice", x.told(2), 2);
        due.is("BAD as before", x.told(0), calls.length);
        due.is("NO as before", x.told(1), 3);
    }

    /** "By does() nothing counts". */
    private static void nothingCountsByDoes() {
        String[] texts = {"", "   ", "x", "f", "d40011;", "d00091;", "r08011;", "p800;", "m000;m000;m000;m000;m000;m000;m000;",
            "p000;p000;p000;p000;p000;p000;p000;", "f;f;d00099;"};
        for (String text : texts) {
            DrawnGates x = new DrawnGates();
            Due.type(x, text);
            due.is("does '" + text + "' is an end", x.does() <= -10 ? 1 : 0, 1);
            due.is("BAD", x.told(0), 0);
            due.is("NO", x.told(1), 0);
            due.is("FULL", x.told(2), 0);
        }
    }

    /** "(by type() as by any call)". */
    private static void typeCountsAsAnyCall() {
        DrawnGates x = new DrawnGates();
        x.type(128);
        due.is("BAD", x.told(0), 1);
        Due.type(x, "f;".repeat(75));
        due.is("FULL not yet", x.told(2), 0);
        x.type('f');
        x.type(';');
        due.is("FULL twice", x.told(2), 2);
        due.is("does counts nothing", x.does(), 75);
        due.is("BAD then", x.told(0), 1);
        due.is("FULL then", x.told(2), 2);
    }

    private static void toldOfEach() {
        DrawnGates x = new DrawnGates();
        for (int i = 0; i < 2; i++) {
            x.back();
        }
        for (int i = 0; i < 7; i++) {
            x.means(0, 0, 0);
        }
        x.back();
        due.is("BAD by told itself", x.told(-1), BAD);
        due.is("and above", x.told(5), BAD);
        Due.type(x, "m000; ");
        int[] want = {2, 2, 1, 6, 4};
        for (int what = 0; what < 5; what++) {
            due.is("told " + what, x.told(what), want[what]);
        }
    }

    private static long fold(long... values) {
        long h = 1682;
        for (long v : values) {
            h = 31 * h + v;
        }
        return h;
    }

    /** All nothing: one way, that gives no NET a NODE. */
    private static void digestOfANewObject() {
        due.is("digest", new DrawnGates().digest(), fold(
            0, 0, 0, 0, 0,
            0, 0, 0, 0, 0, 0, 0, 0, 0,
            0, 0, 0, 0,
            1,
            -1, -1, -1, -1, -1, -1, -1, -1, -1, -1));
    }

    /** "of each LAYER its CELLS, as one number of 64 bits (CELL number n bit n)": bit 0, bit 63, all. */
    private static void digestOfLayers() {
        long[] cells = {1, 1L << 63, -1, 1L << 31, 1L << 32};
        for (long c : cells) {
            DrawnGates x = new DrawnGates();
            if (c == -1) {
                x.draws(3, 0, 0, 8, 8);
            } else {
                int n = Long.numberOfTrailingZeros(c);
                x.draws(3, n % 8, n / 8, 1, 1);
            }
            due.is("digest of cuts " + c, x.digest(), fold(
                0, 0, 0, 0, 1,
                0, 0, 0, 0, 0, 0, 0, 0, 0,
                0, 0, 0, c,
                1,
                -1, -1, -1, -1, -1, -1, -1, -1, -1, -1));
        }
        DrawnGates metal = new DrawnGates();
        metal.draws(2, 7, 7, 1, 1);
        due.is("digest of metal at 63", metal.digest(), fold(
            0, 0, 0, 0, 1,
            1, 0, 0, 1, 0, 0, 0, 0, 0,
            0, 0, 1L << 63, 0,
            1, 0,
            1,
            -1, -1, -1, -1, -1, -1, -1, -1, -1, -1));
    }

    /** "if there is a MATCH": with none the digest ends with ways(). */
    private static void digestWithoutAMatch() {
        DrawnGates broken = Sketch.of("g");
        broken.means(0, 1, 2);
        due.is("a broken gate", broken.digest(), fold(
            0, 0, 0, 0, 3,
            1, 1, 1, 1, 1, 0, 0, 0, 1,
            1, 1, 0, 0,
            0, NONE, NONE, 1, 0, 0,
            1, 0,
            0));
    }

    private static void digestWithAMatch() {
        DrawnGates x = new DrawnGates();
        x.told(5);
        x.back();
        x.back();
        Sketch.onto(x, "dgd", "....m");
        x.means(7, 5, 3);
        x.pins(4, 1, 0);
        Due.type(x, "abc");
        due.is("a gate", x.digest(), fold(
            1, 2, 0, 3, 5,
            4, 1, 0, 4, 1, 1, 0, 0, 0,
            7, 2, 1L << 12, 0,
            2, 0, 1, 1, 2, 1,
            1, 1, 1, 1, 1, 10, 1, 0,
            2,
            0,
            3, -1, -1, 0, -1, 1, -1, 2, -1, -1));
    }

    /** The gates of the devices go before the nodes of the nets, each as matched() and net() tell it. */
    private static void digestOfTwoDevices() {
        DrawnGates x = Sketch.of("dg", "", "xg");
        x.means(0, 1, 1);
        x.means(2, 3, 3);
        x.pins(0, 2, 1);
        due.is("two gates", x.digest(), fold(
            0, 0, 0, 0, 5,
            4, 2, 0, 5, 2, 1, 0, 0, 0,
            3 | 3 << 16, 2 | 2 << 16, 1 << 16, 1 << 16,
            2, 0, 0, 1, 1, 1,
            3, 1, 1, 1, 1, 17,
            1, 2, 2, 2, 1, 10, 1, 10,
            1,
            1, 0,
            3, 1, 2, 0, -1, -1, -1, -1, -1, -1));
    }

    private static void digestChangesNothing() {
        DrawnGates x = Sketch.of("g");
        due.is("twice the same", x.digest() - x.digest(), 0);
        due.is("no refusal", x.told(0) + x.told(1) + x.told(2), 0);
        due.is("no state", x.told(4), 2);
    }
}
