/** The Terms of what is MEANT, and promises 14 to 19: each edge, at it and beside it. */
public final class MeantEdgesTest {
    private static final int NONE = DrawnGates.NONE, NO = DrawnGates.NO;
    private static final Due due = new Due("meant edges");

    public static void main(String[] args) {
        pinsAndMetal();
        shorts();
        opens();
        pinsWithoutMetalAreAtNone();
        mostShortsAndOpens();
        waysOfNothing();
        eachGateOfJustOneDevice();
        wellGatesAlone();
        unlikeNetsUnlikeNodes();
        nodeOfTheGateNet();
        eitherWayRound();
        pinsOfMatches();
        netsThatHaveNone();
        waysFromNoneToMost();
        firstByGates();
        firstByNets();
        noMatch();
        devicesAndPins();
        howNetsHang();
        likeByGateAndSides();
        likeEitherWayRound();
        unlikeLeftOver();
        unlikeOfWhatStands();
        due.end();
    }

    private static DrawnGates meant(DrawnGates x, int... devices) {
        for (int i = 0; i + 2 < devices.length; i += 3) {
            x.means(devices[i], devices[i + 1], devices[i + 2]);
        }
        return x;
    }

    private static DrawnGates pinned(DrawnGates x, int... pins) {
        for (int i = 0; i + 2 < pins.length; i += 3) {
            x.pins(pins[i], pins[i + 1], pins[i + 2]);
        }
        return x;
    }

    /** "a PIN is at the NODE of METAL there, if there is METAL": nothing else will do. */
    private static void pinsAndMetal() {
        String signs = ".dpgmcDPGxyzMeq";
        int[] nodes = {NONE, NONE, NONE, NONE, 0, NONE, 1, 1, 1, 0, 0, 0, 0, NONE, NONE};
        for (int i = 0; i < signs.length(); i++) {
            DrawnGates x = new DrawnGates();
            Sketch.cell(x, signs.charAt(i), 7, 7);
            x.pins(7, 7, 0);
            due.is("pin on " + signs.charAt(i), x.pin(0, 3), nodes[i]);
        }
        DrawnGates beside = pinned(Sketch.of("m.m"), 1, 0, 4);
        due.is("beside metal", beside.pin(0, 3), NONE);
        beside.draws(2, 1, 0, 1, 1);
        due.is("metal comes", beside.pin(0, 3), 0);
        beside.rubs(2, 1, 0, 1, 1);
        due.is("metal goes", beside.pin(0, 3), NONE);
        due.is("no refusal", beside.told(0), 0);
    }

    /** "Two PINS with unlike NETS at one NODE are a SHORT". */
    private static void shorts() {
        due.is("one pin", pinned(Sketch.of("mmm"), 0, 0, 1).count(6), 0);
        due.is("unlike nets, one node", pinned(Sketch.of("mmm"), 0, 0, 1, 2, 0, 2).count(6), 1);
        due.is("one net, one node", pinned(Sketch.of("mmm"), 0, 0, 1, 2, 0, 1).count(6), 0);
        due.is("unlike nets, unlike nodes", pinned(Sketch.of("m.m"), 0, 0, 1, 2, 0, 2).count(6), 0);
        due.is("at one cell", pinned(Sketch.of("m"), 0, 0, 0, 0, 0, 9).count(6), 1);
        due.is("at two pieces of one node", pinned(Sketch.of("ypy"), 0, 0, 1, 2, 0, 2).count(6), 1);
        due.is("three at one node: three twos", pinned(Sketch.of("m"), 0, 0, 1, 0, 0, 2, 0, 0, 3).count(6), 3);
        due.is("three of two nets: two twos", pinned(Sketch.of("m"), 0, 0, 1, 0, 0, 2, 0, 0, 1).count(6), 2);
    }

    /** "two of one NET at unlike NODES an OPEN". */
    private static void opens() {
        due.is("one pin", pinned(Sketch.of("m.m"), 0, 0, 1).count(7), 0);
        due.is("one net, unlike nodes", pinned(Sketch.of("m.m"), 0, 0, 1, 2, 0, 1).count(7), 1);
        due.is("one net, one node", pinned(Sketch.of("mmm"), 0, 0, 1, 2, 0, 1).count(7), 0);
        due.is("unlike nets, unlike nodes", pinned(Sketch.of("m.m"), 0, 0, 1, 2, 0, 2).count(7), 0);
        due.is("at two pieces of one node", pinned(Sketch.of("ypy"), 0, 0, 1, 2, 0, 1).count(7), 0);
        due.is("three at three nodes: three twos", pinned(Sketch.of("m.m.m"), 0, 0, 1, 2, 0, 1, 4, 0, 1).count(7), 3);
        due.is("three at two nodes: two twos", pinned(Sketch.of("mmm.m"), 0, 0, 1, 2, 0, 1, 4, 0, 1).count(7), 2);
        due.is("net 0", pinned(Sketch.of("m.m"), 0, 0, 0, 2, 0, 0).count(7), 1);
    }

    /** "(PINS without METAL are at none)": not at one with another, nor at unlike ones. */
    private static void pinsWithoutMetalAreAtNone() {
        DrawnGates unlike = pinned(Sketch.of("m"), 4, 4, 1, 5, 5, 2, 4, 4, 3);
        due.is("three without: shorts", unlike.count(6), 0);
        due.is("three without: opens", unlike.count(7), 0);
        DrawnGates alike = pinned(Sketch.of("m"), 4, 4, 1, 5, 5, 1);
        due.is("two of one net without: opens", alike.count(7), 0);
        due.is("two of one net without: shorts", alike.count(6), 0);
        DrawnGates one = pinned(Sketch.of("m"), 0, 0, 1, 5, 5, 1, 5, 5, 2);
        due.is("one with, two without: opens", one.count(7), 0);
        due.is("one with, two without: shorts", one.count(6), 0);
        one.draws(2, 5, 5, 1, 1);
        due.is("metal comes: opens", one.count(7), 1);
        due.is("metal comes: shorts", one.count(6), 1);
    }

    private static void mostShortsAndOpens() {
        DrawnGates all = Sketch.of("m.m.m.m", "", "m.m.m.m");
        for (int i = 0; i < 6; i++) {
            all.pins(i % 3 * 2, i / 3 * 2, 7);
        }
        due.is("six of one net at six nodes", all.count(7), 15);
        due.is("no short", all.count(6), 0);
        all.forgets();
        for (int i = 0; i < 6; i++) {
            all.pins(6, 2, i);
        }
        due.is("six nets at one node", all.count(6), 15);
        due.is("no open", all.count(7), 0);
    }

    /** Nothing drawn, nothing MEANT: one way, that gives nothing to nothing. */
    private static void waysOfNothing() {
        due.is("nothing", new DrawnGates().ways(), 1);
        due.is("wires alone", Sketch.of("d.p.m").ways(), 1);
        due.is("a gate, no device", Sketch.of("dgd").ways(), 0);
        due.is("a broken gate, no device", Sketch.of("g").ways(), 0);
        due.is("a device, no gate", meant(new DrawnGates(), 0, 1, 2).ways(), 0);
    }

    /** "each GATE (BROKEN ones too) is that of just one DEVICE". */
    private static void eachGateOfJustOneDevice() {
        String[] two = {"dgd", "", "dgd"};
        due.is("one device too few", meant(Sketch.of(two), 0, 1, 2).ways(), 0);
        due.is("just as many", meant(Sketch.of(two), 0, 1, 2, 3, 4, 5).ways(), 8);
        due.is("one device too many", meant(Sketch.of(two), 0, 1, 2, 3, 4, 5, 6, 7, 8).ways(), 0);
        due.is("two alike, one gate", meant(Sketch.of("dgd"), 0, 1, 2, 0, 1, 2).ways(), 0);
        due.is("two alike, two gates", meant(Sketch.of("dgd", "dpd", "dgd"), 0, 1, 2, 0, 1, 2).ways(), 4);
        DrawnGates broken = meant(Sketch.of("dgd", "", "g"), 0, 1, 2);
        due.is("a broken one is left", broken.ways(), 0);
        broken.rubs(0, 0, 2, 1, 1);
        due.is("no broken one", broken.ways(), 2);
        DrawnGates seven = new DrawnGates();
        seven.draws(0, 0, 0, 8, 8);
        seven.rubs(0, 1, 0, 1, 8);
        seven.rubs(0, 3, 0, 5, 8);
        for (int y = 0; y < 8; y += 2) {
            Sketch.cell(seven, 'g', 1, y);
        }
        for (int i = 0; i < 4; i++) {
            seven.means(6 + i, 0, 1);
        }
        due.is("four of four", seven.ways(), 48);
        Sketch.onto(seven, "", ".....g", "....d", "....g");
        due.is("six gates of four devices", seven.ways(), 0);
    }

    /** "to each DEVICE a GATE that is WELL": one or two SIDES, not none, not three. */
    private static void wellGatesAlone() {
        due.is("no side", meant(Sketch.of(".g."), 0, 1, 1).ways(), 0);
        due.is("one side", meant(Sketch.of("dg."), 0, 1, 1).ways(), 1);
        due.is("two sides", meant(Sketch.of("dgd"), 0, 1, 2).ways(), 2);
        due.is("three sides", meant(Sketch.of("dgd", ".d."), 0, 1, 2).ways(), 0);
    }

    /** "unlike NETS have unlike NODES", those of DEVICES and those of PINS. */
    private static void unlikeNetsUnlikeNodes() {
        due.is("two side nets, one side", meant(Sketch.of("dg"), 0, 1, 2).ways(), 0);
        due.is("one side net, two sides", meant(Sketch.of("dgd"), 0, 1, 1).ways(), 0);
        due.is("gate and side one node, two nets", meant(Sketch.of("xzd"), 0, 1, 2).ways(), 0);
        due.is("gate and side one node, one net", meant(Sketch.of("xzd"), 1, 1, 2).ways(), 1);
        due.is("gate and side two nodes, one net", meant(Sketch.of("dgd"), 1, 1, 2).ways(), 0);
        due.is("all one", meant(Sketch.of("xz"), 5, 5, 5).ways(), 1);
        due.is("two gates of one node, two nets", meant(Sketch.of("dgd", ".p.", "dgd"), 0, 1, 2, 3, 4, 5).ways(), 0);
        due.is("two gates of one node, one net", meant(Sketch.of("dgd", ".p.", "dgd"), 0, 1, 2, 0, 4, 5).ways(), 8);
        DrawnGates pin = meant(Sketch.of("xgd"), 0, 1, 2);
        pin.pins(0, 0, 9);
        due.is("a pin's net where a device's must be", pin.ways(), 0);
        pin.back();
        pin.pins(0, 0, 1);
        due.is("a pin's net that is the device's", pin.ways(), 1);
        for (int n : new int[] {0, 9}) {
            due.is("net " + n + " where net 2 or 1 must be", pinned(meant(Sketch.of("xgx"), 5, 1, 2), 0, 0, n).ways(), 0);
            due.is("net " + n + " apart", pinned(meant(Sketch.of("xgx", "", "m"), 5, 1, 2), 0, 2, n).ways(), 2);
            due.is("nets " + n + " and 5 at one node", pinned(Sketch.of("m"), 0, 0, n, 0, 0, 5).ways(), 0);
            due.is("nets 5 and " + n + " at one node", pinned(Sketch.of("m"), 0, 0, 5, 0, 0, n).ways(), 0);
        }
        due.is("one net at two nodes, no device", pinned(Sketch.of("m.m"), 0, 0, 1, 2, 0, 1).ways(), 0);
    }

    /** "the GATE's NODE is that of the DEVICE's gate NET". */
    private static void nodeOfTheGateNet() {
        DrawnGates x = meant(Sketch.of("dgd", ".y.", "..."), 4, 1, 2);
        x.pins(1, 1, 4);
        due.is("the gate's pin", x.ways(), 2);
        due.is("its node", x.net(4), 2);
        x.back();
        x.pins(1, 1, 1);
        due.is("a side's pin at the gate", x.ways(), 0);
    }

    /** "its A and B are the NODES of the DEVICE's side NETS, either way round". */
    private static void eitherWayRound() {
        DrawnGates x = meant(Sketch.of("dgx"), 0, 1, 2);
        due.is("both ways", x.ways(), 2);
        x.pins(2, 0, 2);
        due.is("b is B", x.ways(), 1);
        due.is("net 1", x.net(1), 0);
        due.is("net 2", x.net(2), 1);
        x.back();
        x.pins(2, 0, 1);
        due.is("a is B", x.ways(), 1);
        due.is("net 1 then", x.net(1), 1);
        due.is("net 2 then", x.net(2), 0);
        due.is("of one side there is one way", meant(Sketch.of("dg"), 0, 1, 1).ways(), 1);
    }

    /** "the NODE of a PIN is that of its NET"; a PIN without METAL binds nothing. */
    private static void pinsOfMatches() {
        DrawnGates x = meant(Sketch.of("dgx", "", "m"), 0, 1, 2);
        x.pins(7, 7, 1);
        due.is("without metal", x.ways(), 2);
        x.pins(7, 7, 2);
        due.is("two nets at a place without metal", x.ways(), 2);
        x.pins(0, 2, 9);
        due.is("a net of its own at a node of its own", x.ways(), 2);
        due.is("has it", x.net(9), 3);
        x.pins(2, 0, 1);
        due.is("at a side", x.ways(), 1);
        x.pins(0, 2, 1);
        due.is("at another node, too", x.ways(), 0);
    }

    /** net: "NONE: it has none." */
    private static void netsThatHaveNone() {
        DrawnGates x = meant(Sketch.of("dgd", "", "m"), 8, 0, 9);
        x.pins(0, 2, 5);
        x.pins(7, 7, 6);
        int[] want = {0, NONE, NONE, NONE, NONE, 3, NONE, NONE, 2, 1};
        for (int n = 0; n < 10; n++) {
            due.is("net " + n, x.net(n), want[n]);
        }
        due.is("no refusal", x.told(0) + x.told(1), 0);
        x.rubs(2, 0, 2, 1, 1);
        due.is("its metal goes", x.net(5), NONE);
    }

    /** "WAYS: how many unlike ones there are, 9999 at most": 0, 1, 2 and the most that six DEVICES can have. */
    private static void waysFromNoneToMost() {
        due.is("0", meant(Sketch.of("dgd"), 0, 0, 0).ways(), 0);
        due.is("1", meant(Sketch.of("gd"), 0, 1, 1).ways(), 1);
        due.is("2", meant(Sketch.of("dgd"), 0, 1, 2).ways(), 2);
        DrawnGates x = Sketch.of("dgd.dgd", "d.ddd.d", "dgd.dgd", "d.d.d.d", "dgd.dgd", "d.....d", "xmmmmmx");
        due.is("gates", x.count(1), 6);
        due.is("nodes", x.count(0), 8);
        for (int i = 0; i < 5; i++) {
            x.means(2 + i, 0, 1);
        }
        due.is("five devices of six gates", x.ways(), 0);
        x.means(7, 1, 0);
        due.is("6! and both ways round: the most there can be", x.ways(), 1440);
        x.pins(0, 6, 0);
        due.is("one way round", x.ways(), 720);
        due.is("star", star().ways(), 720);
    }

    /** Six with one gate and one side together, the other sides apart: 6! */
    private static DrawnGates star() {
        DrawnGates x = Sketch.of("dgd.dgd", ".pd.dp.", "dgd.dgd", ".pd.dp.", "dgd.dgd", ".p...p.", ".ymmmy.");
        Sketch.onto(x, "", "", "", "..ddd");
        for (int i = 0; i < 6; i++) {
            x.means(0, 1, 2 + i);
        }
        return x;
    }

    /** "The FIRST: by the GATE of DEVICE 0, then of 1, and so on". */
    private static void firstByGates() {
        // Net 1 is at the right end of the row: device 0 goes before it.
        DrawnGates x = meant(Sketch.of("dgdgd", ".ppp."), 0, 3, 2, 0, 2, 1);
        due.is("ways", x.ways(), 2);
        due.is("device 0", x.matched(0), 0);
        due.is("device 1", x.matched(1), 1);
        due.is("net 1", x.net(1), 2);
        due.is("net 3", x.net(3), 0);
        DrawnGates bound = meant(Sketch.of("dgdgx", ".ppp."), 0, 3, 2, 0, 2, 1);
        bound.pins(4, 0, 3);
        due.is("bound: ways", bound.ways(), 1);
        due.is("bound: device 0 has the greater", bound.matched(0), 1);
        due.is("bound: device 1 has the lesser", bound.matched(1), 0);
        DrawnGates three = meant(Sketch.of("dg", "", "dg", "", "xg"), 0, 1, 1, 2, 3, 3, 4, 5, 5);
        three.pins(0, 4, 3);
        due.is("three: ways", three.ways(), 2);
        due.is("three: device 0", three.matched(0), 0);
        due.is("three: device 1 is bound", three.matched(1), 2);
        due.is("three: device 2", three.matched(2), 1);
    }

    /** "then by the NODE of the least NET, and so on". */
    private static void firstByNets() {
        DrawnGates x = meant(Sketch.of("dgd"), 0, 2, 1);
        due.is("the least side net has the least node", x.net(1), 0);
        due.is("the other", x.net(2), 1);
        DrawnGates two = meant(Sketch.of("dgd", "", "dgd"), 9, 8, 1, 7, 2, 0);
        due.is("ways", two.ways(), 8);
        due.is("device 0", two.matched(0), 0);
        due.is("device 1", two.matched(1), 1);
        int[] want = {2, 0, 3, NONE, NONE, NONE, NONE, 5, 1, 4};
        for (int n = 0; n < 10; n++) {
            due.is("net " + n, two.net(n), want[n]);
        }
    }

    /** matched, net: "NO: there is none"; with one they are not refused. */
    private static void noMatch() {
        DrawnGates x = meant(Sketch.of("dg"), 0, 1, 2);
        due.refused("matched", x, NO, () -> x.matched(0));
        due.refused("net 0", x, NO, () -> x.net(0));
        due.refused("net of no device", x, NO, () -> x.net(9));
        Sketch.cell(x, 'd', 2, 0);
        due.changesNothing("matched now", x, 0, () -> x.matched(0));
        due.changesNothing("net 0 now", x, 2, () -> x.net(0));
        due.changesNothing("net 9 now", x, NONE, () -> x.net(9));
        DrawnGates nothing = new DrawnGates();
        due.changesNothing("no device, but a match", nothing, NONE, () -> nothing.net(0));
        DrawnGates broken = Sketch.of("g");
        due.refused("no device, no match", broken, NO, () -> broken.net(0));
    }

    /** device and pin: each what, of the first and of the sixth. */
    private static void devicesAndPins() {
        DrawnGates x = Sketch.of(".......m");
        for (int i = 0; i < 6; i++) {
            x.means(i, 9 - i, i + 1);
            x.pins(7 - i, i, 9 - i);
        }
        int[] first = {0, 9, 1};
        int[] sixth = {5, 4, 6};
        int[] firstPin = {7, 0, 9, 0};
        int[] sixthPin = {2, 5, 4, NONE};
        for (int what = 0; what < 3; what++) {
            due.is("device 0, " + what, x.device(0, what), first[what]);
            due.is("device 5, " + what, x.device(5, what), sixth[what]);
        }
        for (int what = 0; what < 4; what++) {
            due.is("pin 0, " + what, x.pin(0, what), firstPin[what]);
            due.is("pin 5, " + what, x.pin(5, what), sixthPin[what]);
        }
    }

    /** "10 times the DEVICES whose gate it is, and their sides that are it (two of one DEVICE, if both are)". */
    private static void howNetsHang() {
        DrawnGates x = new DrawnGates();
        due.is("none", x.hangs(0), 0);
        x.means(0, 1, 2);
        due.is("gate", x.hangs(0), 10);
        due.is("a", x.hangs(1), 1);
        due.is("b", x.hangs(2), 1);
        due.is("neither", x.hangs(3), 0);
        x.means(3, 4, 4);
        due.is("both sides", x.hangs(4), 2);
        x.means(5, 5, 9);
        due.is("gate and a", x.hangs(5), 11);
        due.is("b, the last net", x.hangs(9), 1);
        x.pins(0, 0, 9);
        due.is("a pin is nothing to it", x.hangs(9), 1);
        x.forgets();
        for (int i = 0; i < 6; i++) {
            x.means(9, 9, 9);
            due.is("all of " + (i + 1), x.hangs(9), 12 * (i + 1));
        }
        due.is("drawings are nothing to it", meant(Sketch.of("dgd"), 0, 1, 2).hangs(0), 10);
    }

    /** "LIKE .. if their gates hang alike, and their sides do". */
    private static void likeByGateAndSides() {
        due.is("gate and sides alike", meant(Sketch.of("dgd"), 0, 1, 2).count(8), 0);
        due.is("sides otherwise", meant(Sketch.of("dgd"), 0, 1, 1).count(8), 2);
        due.is("gate otherwise", meant(Sketch.of("dgd"), 1, 1, 2).count(8), 2);
        String[] apart = {"dgd", "", "dgd"};
        due.is("gates apart, one net meant", meant(Sketch.of(apart), 0, 1, 2, 0, 3, 4).count(8), 4);
        due.is("gates apart, two nets meant", meant(Sketch.of(apart), 0, 1, 2, 5, 3, 4).count(8), 0);
        due.is("sides apart, one net meant", meant(Sketch.of(apart), 0, 1, 2, 5, 2, 4).count(8), 4);
        due.is("one side of each hangs alike", meant(Sketch.of("dgdg"), 0, 1, 2, 3, 2, 4).count(8), 4);
        // Both sides of the device hang by 1, of the gate by 1 and by 3.
        due.is("a alone is alike", meant(Sketch.of("dgdg"), 0, 1, 2).count(8), 3);
    }

    /** ".. either way round". */
    private static void likeEitherWayRound() {
        String[] row = {"dgdgd"};
        due.is("1, 2 and 2, 1", meant(Sketch.of(row), 0, 1, 2, 3, 2, 4).count(8), 0);
        due.is("2, 1 and 2, 1", meant(Sketch.of(row), 0, 2, 1, 3, 2, 4).count(8), 0);
        due.is("1, 2 and 1, 2", meant(Sketch.of(row), 0, 1, 2, 3, 4, 2).count(8), 0);
        due.is("ways, whichever way", meant(Sketch.of(row), 0, 1, 2, 3, 4, 2).ways(), 2);
        // The sides hang by 2 and 2, and those of the drawn by 1 and 2.
        due.is("not crosswise", meant(Sketch.of(row), 0, 1, 2, 3, 2, 1).count(8), 4);
    }

    /** "how many are left over, if of each kind that is LIKE as many as can be are paired." */
    private static void unlikeLeftOver() {
        due.is("nothing", new DrawnGates().count(8), 0);
        due.is("a device alone", meant(new DrawnGates(), 0, 1, 2).count(8), 1);
        due.is("a gate alone", Sketch.of("dgd").count(8), 1);
        due.is("a broken gate alone", Sketch.of("g").count(8), 0);
        due.is("a device and a broken gate", meant(Sketch.of("g"), 0, 1, 2).count(8), 1);
        String[] rows = {"dgd", "", "dgd", "", "dg.", "", "dg."};
        due.is("four gates", Sketch.of(rows).count(8), 4);
        due.is("one of a kind of two", meant(Sketch.of(rows), 0, 1, 2).count(8), 3);
        due.is("two of it", meant(Sketch.of(rows), 0, 1, 2, 3, 4, 5).count(8), 2);
        due.is("three of it", meant(Sketch.of(rows), 0, 1, 2, 3, 4, 5, 6, 7, 8).count(8), 3);
        due.is("one of each kind", meant(Sketch.of(rows), 0, 1, 2, 6, 7, 7).count(8), 2);
        due.is("all paired", meant(Sketch.of(rows), 0, 1, 2, 6, 7, 7, 8, 9, 9, 3, 4, 5).count(8), 0);
        due.is("of a kind that is not drawn", meant(Sketch.of(rows), 9, 9, 9).count(8), 5);
        DrawnGates most = meant(Sketch.of("dgd"), 0, 0, 0, 0, 0, 0, 0, 0, 0, 0, 0, 0, 0, 0, 0, 0, 0, 0);
        due.is("six and one", most.count(8), 7);
    }

    /** UNLIKE and WAYS are of what stands now. */
    private static void unlikeOfWhatStands() {
        DrawnGates x = meant(Sketch.of("dgd", "dpd", "dgd"), 0, 1, 2, 3, 4, 5);
        due.is("two in parallel, meant apart", x.count(8), 4);
        x.rubs(0, 1, 2, 1, 1);
        due.is("one is gone", x.count(8), 1);
        x.means(9, 9, 9);
        due.is("another device", x.count(8), 2);
        x.back();
        x.back();
        due.is("both again", x.count(8), 4);
        DrawnGates y = meant(Sketch.of("dgd"), 0, 1, 2);
        due.is("alike", y.count(8), 0);
        due.is("ways", y.ways(), 2);
        y.rubs(0, 2, 0, 1, 1);
        due.is("alike no more", y.count(8), 2);
        due.is("no way", y.ways(), 0);
        due.is("matched", y.matched(0), NO);
        y.back();
        due.is("ways again", y.ways(), 2);
        y.forgets();
        due.is("the gate alone", y.count(8), 1);
    }
}
