/** THE TEXT, its ORDERS and its FAULT; promises 20 to 22: each edge, at it and beside it. */
public final class TextEdgesTest {
    private static final String[] ORDERS = {"d00011;", "r00011;", "m000;", "p000;", "f;"};
    private static final Due due = new Due("text edges");

    public static void main(String[] args) {
        bytes150();
        eachByteComesBehind();
        clears();
        emptyOrBlanksAlone();
        endsTooEarly();
        endsTooEarlyBehindAnOrder();
        eachByteFirst();
        eachByteForAFigure();
        eachByteForAnEnd();
        oneFigure();
        blanksAnywhere();
        faultAtEachPlace();
        readWholeFirst();
        nothingIsDone();
        ordersAsCalls();
        ordersAtTheirEdges();
        ordersThatAreFull();
        numberOfTheOrder();
        oneStateForAll();
        theTextStays();
        due.end();
    }

    private static String times(int n, String part) {
        return part.repeat(n);
    }

    /** "how many it has. BAD; FULL: 150." */
    private static void bytes150() {
        DrawnGates x = new DrawnGates();
        for (int i = 1; i <= 149; i++) {
            due.is("byte " + i, x.type(i % 128), i);
        }
        due.is("told before the last", x.told(3), 149);
        due.is("the last", x.type(0), 150);
        due.refused("one more", x, DrawnGates.FULL, () -> x.type(0));
        due.refused("and again", x, DrawnGates.FULL, () -> x.type(127));
        due.is("told", x.told(3), 150);
        due.is("clear", x.clear(), 150);
        due.is("there is room again", x.type(127), 1);
    }

    /** "comes behind THE TEXT": a refused one does not. */
    private static void eachByteComesBehind() {
        DrawnGates x = new DrawnGates();
        Due.type(x, "d 2 3");
        due.refused("128", x, DrawnGates.BAD, () -> x.type(128));
        due.refused("-1", x, DrawnGates.BAD, () -> x.type(-1));
        due.refused("304, which is 48 and 256", x, DrawnGates.BAD, () -> x.type(304));
        Due.type(x, "411;");
        due.is("does", x.does(), 1);
        due.is("at", x.at(2, 3, 4), 1);
        Due.type(x, "f;");
        due.is("behind what stays", x.does(), 2);
        DrawnGates full = new DrawnGates();
        Due.type(full, times(74, "f;") + "f ");
        full.type(';');
        due.is("what came too late is not in it", full.does(), -10 - 150);
    }

    private static void clears() {
        DrawnGates x = new DrawnGates();
        due.changesNothing("of nothing", x, 0, x::clear);
        x.type('f');
        due.is("of one", x.clear(), 1);
        due.is("told", x.told(3), 0);
        due.is("no state", x.told(4), 0);
        x.type(';');
        due.is("nothing of the old text is left", x.does(), -10);
    }

    /** "the TEXT's length, if it ends too early (one that is empty or has blanks alone, too)". */
    private static void emptyOrBlanksAlone() {
        DrawnGates x = new DrawnGates();
        due.changesNothing("empty", x, -10, x::does);
        x.type(' ');
        due.changesNothing("one blank", x, -11, x::does);
        x.type(' ');
        due.changesNothing("two blanks", x, -12, x::does);
        Due.type(x, times(147, " "));
        due.changesNothing("149 blanks", x, -10 - 149, x::does);
        x.type(' ');
        due.changesNothing("150 blanks", x, -10 - 150, x::does);
        x.clear();
        due.changesNothing("empty again", x, -10, x::does);
    }

    private static void endsTooEarly() {
        DrawnGates x = new DrawnGates();
        for (String order : ORDERS) {
            for (int n = 0; n < order.length(); n++) {
                String part = order.substring(0, n);
                due.is("does '" + part + "'", Due.does(x, part), -10 - n);
                due.is("does '" + part + " '", Due.does(x, part + " "), -10 - n - 1);
            }
        }
        due.is("no state", x.told(4), 0);
        for (String order : ORDERS) {
            due.is("does '" + order + "'", Due.does(x, order), 1);
        }
    }

    private static void endsTooEarlyBehindAnOrder() {
        DrawnGates x = new DrawnGates();
        due.is("whole", Due.does(x, "f;"), 1);
        due.is("and a blank", Due.does(x, "f; "), 1);
        due.is("one byte too many", Due.does(x, "f;f"), -13);
        due.is("two orders", Due.does(x, "f;f;"), 2);
        due.is("of 150 bytes, the last misses", Due.does(x, times(74, "f;") + " f"), -10 - 150);
        due.is("of 150 bytes, all there", Due.does(x, times(75, "f;")), 75);
    }

    private static boolean isOneOf(int c, String signs) {
        return signs.indexOf(c) >= 0;
    }

    private static void eachByteAt(String ahead, String canStand, String ends) {
        DrawnGates x = null;
        for (int c = 0; c < 128; c++) {
            if (c % 32 == 0) {
                x = new DrawnGates();
            }
            int place = ahead.length();
            int want = isOneOf(c, ends) ? 1 : -10 - (isOneOf(c, canStand) ? place + 1 : place);
            due.is("does '" + ahead + "' and byte " + c, Due.does(x, ahead + (char) c), want);
        }
    }

    /** "the place of the first byte that can not stand there": all 128 where an ORDER begins. */
    private static void eachByteFirst() {
        eachByteAt("", " drmpf", "");
        eachByteAt("  ", " drmpf", "");
    }

    private static void eachByteForAFigure() {
        eachByteAt("d", " 0123456789", "");
        eachByteAt("r0001", " 0123456789", "");
        eachByteAt("m", " 0123456789", "");
        eachByteAt("p 0 0", " 0123456789", "");
    }

    private static void eachByteForAnEnd() {
        eachByteAt("f", " ", ";");
        eachByteAt("d00011", " ", ";");
        eachByteAt("m999", " ", ";");
    }

    /** "Numbers have one figure". */
    private static void oneFigure() {
        DrawnGates x = new DrawnGates();
        due.is("as many figures as there are", Due.does(x, "d 1 0 0 1 1;"), 1);
        due.is("10 is two numbers: one is too many", Due.does(x, "d 10 0 0 1 1;"), -10 - 11);
        due.is("without blanks just the same", Due.does(x, "d10011;"), 1);
        due.is("one more", Due.does(x, "d100111;"), -10 - 6);
        due.is("one less", Due.does(x, "d1001;"), -10 - 5);
        due.is("means: one more", Due.does(x, "m1234;"), -10 - 4);
        due.is("means: one less", Due.does(x, "m12;"), -10 - 3);
        due.is("pins: one more", Due.does(x, "p1234;"), -10 - 4);
        due.is("pins: one less", Due.does(x, "p12;"), -10 - 3);
        due.is("forgets has none", Due.does(x, "f0;"), -10 - 1);
        due.is("no sign", Due.does(x, "m-100;"), -10 - 1);
    }

    /** "blanks (32) may stand anywhere": one, and two, at each place. */
    private static void blanksAnywhere() {
        for (String order : ORDERS) {
            DrawnGates x = new DrawnGates();
            for (int at = 0; at <= order.length(); at++) {
                String one = order.substring(0, at) + " " + order.substring(at);
                String two = order.substring(0, at) + "  " + order.substring(at);
                due.is("does '" + one + "'", Due.does(x, one), 1);
                x.forgets();
                due.is("does '" + two + "'", Due.does(x, two), 1);
                x.forgets();
            }
        }
        DrawnGates x = new DrawnGates();
        due.is("everywhere", Due.does(x, " m 7  8 9 ; d 2 1 2 3 4 ;  "), 2);
        due.is("the device", x.device(0, 0) * 100 + x.device(0, 1) * 10 + x.device(0, 2), 789);
        due.is("the box", x.rubs(2, 1, 2, 3, 4), 12);
        due.is("9 is no blank", Due.does(x, "f\t;"), -11);
        due.is("10 is no blank", Due.does(x, "f\n;"), -11);
        due.is("0 is no blank", Due.does(x, "f\0;"), -11);
    }

    /** The FAULT is the first one, from place 0 to place 149. */
    private static void faultAtEachPlace() {
        DrawnGates x = new DrawnGates();
        due.is("place 0", Due.does(x, "xf;"), -10);
        due.is("place 1", Due.does(x, " x;"), -11);
        due.is("two faults: the first", Due.does(x, "f;x;y"), -12);
        due.is("a fault, then too short", Due.does(x, "f;x;d0"), -12);
        due.is("an end without an order", Due.does(x, "f;;"), -12);
        due.is("place 148", Due.does(x, times(74, "f;") + "xx"), -10 - 148);
        due.is("place 149", Due.does(x, times(74, "f;") + "fx"), -10 - 149);
        due.is("the last byte, behind an end", Due.does(x, times(74, "f;") + " ;"), -10 - 149);
    }

    /** "THE TEXT is read whole first": a FAULT goes before a refused ORDER that is ahead of it. */
    private static void readWholeFirst() {
        DrawnGates x = new DrawnGates();
        due.is("a refused order", Due.does(x, "d40011;f;"), -1000);
        due.is("then a fault", Due.does(x, "d40011;f;x"), -10 - 9);
        due.is("then too short", Due.does(x, "d40011;f;f"), -10 - 10);
    }

    /** "If there is one, nothing is done"; "an ORDER that its call would refuse then ends all, nothing is done." */
    private static void nothingIsDone() {
        String[] texts = {
            "d 2 0 0 8 8;m012;p000;f;m345;x", "d 2 0 0 8 8;r 2 0 0 1 1;m012", "f;d40011;", "m345;p008;p800;",
            "d30088;r00088;f;p080;", "r00088;r10088;r20088;f;d00009;"
        };
        for (String text : texts) {
            DrawnGates x = Sketch.of("dgd", "", "xm");
            x.means(0, 1, 2);
            x.pins(0, 2, 9);
            Due.type(x, text);
            int answer = x.does();
            due.changesNothing("does '" + text + "'", x, answer, x::does);
            due.is("is an end", answer <= -10 ? 1 : 0, 1);
            due.is("told BAD, NO, FULL", x.told(0) + x.told(1) + x.told(2), 0);
            due.is("states", x.told(4), 5);
            due.is("gates", x.count(1), 1);
            due.is("devices", x.count(4), 1);
            due.is("pins", x.count(5), 1);
            due.is("device", x.device(0, 0) * 100 + x.device(0, 1) * 10 + x.device(0, 2), 12);
            due.is("ways", x.ways(), 2);
            due.is("back goes behind the pin", x.back(), 4);
            due.is("which is gone", x.count(5), 0);
            due.is("the device is not", x.count(4), 1);
        }
    }

    /** "d l x y w h (as draws), r l x y w h (as rubs), m g a b (as means), p x y n (as pins), f (as forgets)". */
    private static void ordersAsCalls() {
        DrawnGates x = new DrawnGates();
        due.is("d", Due.does(x, "d31245;"), 1);
        due.is("its first cell", x.at(3, 1, 2), 1);
        due.is("its last cell", x.at(3, 4, 6), 1);
        due.is("r", Due.does(x, "r32313;"), 1);
        due.is("what is rubbed out", x.at(3, 2, 3) + x.at(3, 2, 5), 0);
        due.is("what is not", x.at(3, 2, 2) + x.at(3, 2, 6) + x.at(3, 1, 3) + x.at(3, 3, 3), 4);
        due.is("m", Due.does(x, "m907;"), 1);
        due.is("its nets", x.device(0, 0) * 100 + x.device(0, 1) * 10 + x.device(0, 2), 907);
        due.is("p", Due.does(x, "p709;"), 1);
        due.is("its cell and net", x.pin(0, 0) * 100 + x.pin(0, 1) * 10 + x.pin(0, 2), 709);
        due.is("f", Due.does(x, "f;"), 1);
        due.is("both are gone", x.count(4) + x.count(5), 0);
        due.is("five states", x.told(4), 5);
    }

    /** "an ORDER that its call would refuse": each figure at its edge, and beyond it. */
    private static void ordersAtTheirEdges() {
        String[] done = {
            "d30011;", "d07011;", "d00711;", "d00081;", "d00018;", "d07711;", "d03151;", "r30011;", "r07011;", "r00711;",
            "r00081;", "r00018;", "r00088;", "p700;", "p070;", "p009;", "p779;", "m999;", "m000;", "d01071;"
        };
        String[] refused = {
            "d40011;", "d08011;", "d00811;", "d00091;", "d00019;", "d00001;", "d00010;", "d07021;", "d00712;", "d03161;",
            "r40011;", "r08011;", "r00811;", "r00091;", "r00019;", "r00001;", "r00010;", "r01081;", "r00118;", "p800;",
            "p080;", "p990;", "d90011;", "d01081;"
        };
        for (String text : done) {
            due.is("does '" + text + "'", Due.does(new DrawnGates(), text), 1);
        }
        for (String text : refused) {
            DrawnGates x = new DrawnGates();
            due.is("does '" + text + "'", Due.does(x, text), -1000);
            due.is("told BAD", x.told(0), 0);
            due.is("states", x.told(4), 0);
        }
    }

    /** FULL: 6, by ORDERS as by calls; "then": as it stands when its turn comes. */
    private static void ordersThatAreFull() {
        DrawnGates x = new DrawnGates();
        due.is("six", Due.does(x, times(6, "m123;")), 6);
        due.is("they are there", x.count(4), 6);
        due.is("a seventh", Due.does(x, "m123;"), -1000);
        due.is("behind f there is room", Due.does(x, "f;m456;"), 2);
        due.is("seven in one text", Due.does(x, "f;" + times(7, "m123;")), -1007);
        due.is("nothing is done", x.device(0, 0), 4);
        due.is("six of pins", Due.does(x, times(6, "p123;")), 6);
        due.is("a seventh of them", Due.does(x, "f;" + times(7, "p123;")), -1007);
        due.is("and alone", Due.does(x, "p123;"), -1000);
        due.is("six and six", Due.does(x, "f;" + times(6, "p123;m123;")), 13);
        due.is("told FULL", x.told(2), 0);
        due.is("told BAD", x.told(0), 0);
    }

    /** "-1000 less the number (0 on) of the ORDER that ends all": the first that is refused. */
    private static void numberOfTheOrder() {
        DrawnGates x = new DrawnGates();
        due.is("0", Due.does(x, "p800;f;"), -1000);
        due.is("1", Due.does(x, "f;p800;"), -1001);
        due.is("1, then another", Due.does(x, "f;p800;p800;d90000;"), -1001);
        due.is("72 of 150 bytes", Due.does(x, times(72, "f;") + " p800;"), -1072);
        due.is("none of 74", Due.does(x, times(72, "f;") + "p700;"), 73);
    }

    /** does: "S (one STATE for all)". */
    private static void oneStateForAll() {
        DrawnGates x = new DrawnGates();
        due.is("one order", Due.does(x, "d00011;"), 1);
        due.is("one state", x.told(4), 1);
        due.is("three orders", Due.does(x, "d10011;m012;p000;"), 3);
        due.is("two states", x.told(4), 2);
        due.is("nothing becomes other", Due.does(x, "d10011;"), 1);
        due.is("three states", x.told(4), 3);
        due.is("back", x.back(), 2);
        due.is("still there", x.count(1) + x.count(4) + x.count(5), 3);
        due.is("back of all three", x.back(), 1);
        due.is("none of them", x.at(1, 0, 0) + x.count(4) + x.count(5), 0);
        due.is("the first is", x.at(0, 0, 0), 1);
        due.is("back of it", x.back(), 0);
        due.is("nothing is", x.at(0, 0, 0), 0);
    }

    /** "(THE TEXT stays)": when it is done, when it has a FAULT, when an ORDER is refused. */
    private static void theTextStays() {
        DrawnGates x = new DrawnGates();
        due.is("done", Due.does(x, "m012;"), 1);
        due.is("bytes", x.told(3), 5);
        due.is("done again", x.does(), 1);
        due.is("both devices", x.count(4), 2);
        due.is("more behind it", x.type('x'), 6);
        due.is("a fault", x.does(), -15);
        due.is("bytes then", x.told(3), 6);
        due.is("refused", Due.does(x, "p800;"), -1000);
        due.is("bytes of it", x.told(3), 5);
        due.is("refused again", x.does(), -1000);
        due.is("cleared", x.clear(), 5);
    }
}
