/**
 * "BAD -2 a number is not as told": each number of each call, at both its edges and beside them.
 * Each refusal counts once and changes nothing else; what is at the edge is not refused.
 */
public final class RangesTest {
    private static final Due due = new Due("ranges");

    /** A call of which one number is free. */
    private interface Call {
        int with(DrawnGates x, int v);
    }

    public static void main(String[] args) {
        boxes();
        boxesBeyondSeven();
        drawingCalls();
        cellsAsked();
        whats();
        gatesAndNodesThatAre();
        devicesAndPinsThatAre();
        nets();
        bytes();
        due.end();
    }

    /** Two gates in rows of their own, meant so, with a pin at metal: each getter has something to tell. */
    private static DrawnGates scene() {
        DrawnGates x = Sketch.of("dgd", "", "dgd", "", "mm");
        x.means(0, 1, 2);
        x.means(3, 4, 5);
        x.pins(1, 4, 6);
        return x;
    }

    private static void edges(String call, int least, int most, Call asking) {
        int[] outside = {least - 1, most + 1, Integer.MIN_VALUE, Integer.MAX_VALUE};
        for (int v : outside) {
            DrawnGates x = scene();
            due.refused(call + " of " + v, x, DrawnGates.BAD, () -> asking.with(x, v));
        }
        for (int v : new int[] {least, most}) {
            DrawnGates x = scene();
            int answer = asking.with(x, v);
            due.is(call + " of " + v + " is refused", answer < DrawnGates.NONE ? 1 : 0, 0);
            due.is(call + " of " + v + " counts", x.told(0) + x.told(1) + x.told(2), 0);
        }
    }

    /** "(w, h 1 .. 8)". */
    private static void boxes() {
        edges("draws w", 1, 8, (x, v) -> x.draws(3, 0, 0, v, 1));
        edges("draws h", 1, 8, (x, v) -> x.draws(3, 0, 0, 1, v));
        edges("rubs w", 1, 8, (x, v) -> x.rubs(3, 0, 0, v, 1));
        edges("rubs h", 1, 8, (x, v) -> x.rubs(3, 0, 0, 1, v));
    }

    /** "BAD: beyond 7, too." "BAD, likewise." */
    private static void boxesBeyondSeven() {
        for (int from = 1; from <= 7; from++) {
            int at = from;
            edges("draws w from " + at, 1, 8 - at, (x, v) -> x.draws(3, at, 0, v, 1));
            edges("draws h from " + at, 1, 8 - at, (x, v) -> x.draws(3, 0, at, 1, v));
            edges("rubs w from " + at, 1, 8 - at, (x, v) -> x.rubs(3, at, 0, v, 1));
            edges("rubs h from " + at, 1, 8 - at, (x, v) -> x.rubs(3, 0, at, 1, v));
        }
    }

    private static void drawingCalls() {
        edges("draws l", 0, 3, (x, v) -> x.draws(v, 5, 6, 1, 1));
        edges("draws x", 0, 7, (x, v) -> x.draws(2, v, 6, 1, 1));
        edges("draws y", 0, 7, (x, v) -> x.draws(2, 5, v, 1, 1));
        edges("rubs l", 0, 3, (x, v) -> x.rubs(v, 0, 0, 1, 1));
        edges("rubs x", 0, 7, (x, v) -> x.rubs(0, v, 0, 1, 1));
        edges("rubs y", 0, 7, (x, v) -> x.rubs(0, 0, v, 1, 1));
        edges("moves l", 0, 3, (x, v) -> x.moves(v, 1, 1));
        edges("moves x", -7, 7, (x, v) -> x.moves(0, v, 1));
        edges("moves y", -7, 7, (x, v) -> x.moves(0, 1, v));
        edges("means g", 0, 9, (x, v) -> x.means(v, 0, 0));
        edges("means a", 0, 9, (x, v) -> x.means(0, v, 0));
        edges("means b", 0, 9, (x, v) -> x.means(0, 0, v));
        edges("pins x", 0, 7, (x, v) -> x.pins(v, 0, 0));
        edges("pins y", 0, 7, (x, v) -> x.pins(0, v, 0));
        edges("pins n", 0, 9, (x, v) -> x.pins(0, 0, v));
    }

    private static void cellsAsked() {
        edges("at l", 0, 3, (x, v) -> x.at(v, 0, 0));
        edges("at x", 0, 7, (x, v) -> x.at(0, v, 0));
        edges("at y", 0, 7, (x, v) -> x.at(0, 0, v));
        edges("node l", 0, 2, (x, v) -> x.node(v, 0, 0));
        edges("node x", 0, 7, (x, v) -> x.node(0, v, 0));
        edges("node y", 0, 7, (x, v) -> x.node(0, 0, v));
        edges("gateAt x", 0, 7, (x, v) -> x.gateAt(v, 0));
        edges("gateAt y", 0, 7, (x, v) -> x.gateAt(0, v));
    }

    private static void whats() {
        edges("count what", 0, 8, (x, v) -> x.count(v));
        edges("gate what", 0, 5, (x, v) -> x.gate(1, v));
        edges("wire what", 0, 1, (x, v) -> x.wire(1, v));
        edges("device what", 0, 2, (x, v) -> x.device(1, v));
        edges("pin what", 0, 3, (x, v) -> x.pin(0, v));
        edges("told what", 0, 4, (x, v) -> x.told(v));
    }

    /** GATES and NODES are numbered 0 on: none, some, as many as there can be. */
    private static void gatesAndNodesThatAre() {
        edges("gate i of two", 0, 1, (x, v) -> x.gate(v, 5));
        edges("wire n of seven", 0, 6, (x, v) -> x.wire(v, 0));
        DrawnGates none = new DrawnGates();
        due.refused("gate 0 of none", none, DrawnGates.BAD, () -> none.gate(0, 0));
        due.refused("wire 0 of none", none, DrawnGates.BAD, () -> none.wire(0, 0));
        DrawnGates most = checkered('g', 'd');
        due.is("gates", most.count(1), 32);
        due.is("gate 31, its least cell", most.gate(31, 5), 63);
        due.refused("gate 32", most, DrawnGates.BAD, () -> most.gate(32, 5));
        due.refused("gate -1", most, DrawnGates.BAD, () -> most.gate(-1, 5));
        DrawnGates wires = checkered('P', 'd');
        due.is("nodes", wires.count(0), 96);
        due.is("wire 95", wires.wire(95, 0), 1);
        due.refused("wire 96", wires, DrawnGates.BAD, () -> wires.wire(96, 0));
        due.refused("wire -1", wires, DrawnGates.BAD, () -> wires.wire(-1, 0));
        DrawnGates joined = checkered('y', 'd');
        due.is("as many pieces", joined.count(3), 96);
        due.is("poly and metal joined", joined.count(0), 64);
        due.is("wire 63", joined.wire(63, 0), 2);
        due.refused("wire 64", joined, DrawnGates.BAD, () -> joined.wire(64, 0));
    }

    private static DrawnGates checkered(char even, char odd) {
        DrawnGates x = new DrawnGates();
        for (int c = 0; c < 64; c++) {
            Sketch.cell(x, (c % 8 + c / 8) % 2 == 0 ? even : odd, c % 8, c / 8);
        }
        return x;
    }

    /** DEVICES and PINS 0 .. 5, as they come: those that have come, no other. */
    private static void devicesAndPinsThatAre() {
        DrawnGates x = new DrawnGates();
        for (int have = 0; have <= 6; have++) {
            int next = have;
            due.refused("device " + next, x, DrawnGates.BAD, () -> x.device(next, 0));
            due.refused("pin " + next, x, DrawnGates.BAD, () -> x.pin(next, 0));
            due.refused("matched " + next, x, DrawnGates.BAD, () -> x.matched(next));
            if (have > 0) {
                due.is("device " + (have - 1), x.device(have - 1, 0), have - 1);
                due.is("pin " + (have - 1), x.pin(have - 1, 0), have - 1);
                due.refused("matched " + (have - 1), x, DrawnGates.NO, () -> x.matched(next - 1));
            }
            if (have < 6) {
                x.means(have, 8, 9);
                x.pins(have, 7, 9);
            }
        }
        DrawnGates y = new DrawnGates();
        y.means(0, 1, 2);
        y.pins(0, 0, 0);
        due.refused("device -1", y, DrawnGates.BAD, () -> y.device(-1, 0));
        due.refused("pin -1", y, DrawnGates.BAD, () -> y.pin(-1, 0));
        due.refused("matched -1", y, DrawnGates.BAD, () -> y.matched(-1));
        y.forgets();
        due.refused("device 0, forgotten", y, DrawnGates.BAD, () -> y.device(0, 0));
        due.refused("pin 0, forgotten", y, DrawnGates.BAD, () -> y.pin(0, 0));
        due.refused("matched 0, forgotten", y, DrawnGates.BAD, () -> y.matched(0));
        edges("matched i of two", 0, 1, (z, v) -> z.matched(v));
        edges("device i of two", 0, 1, (z, v) -> z.device(v, 2));
        edges("pin i of one", 0, 0, (z, v) -> z.pin(v, 3));
    }

    private static void nets() {
        edges("net n", 0, 9, (x, v) -> x.net(v));
        edges("hangs n", 0, 9, (x, v) -> x.hangs(v));
    }

    /** "A byte (0 .. 127)". */
    private static void bytes() {
        edges("type c", 0, 127, (x, v) -> x.type(v));
    }
}
