import java.util.function.IntSupplier;

/** Compares answers with those that are due, and counts the wrong ones. */
final class Due {
    private final String title;
    private int asked = 0;
    private int wrong = 0;

    Due(String title) {
        this.title = title;
    }

    void is(String call, long got, long want) {
        asked++;
        if (got != want) {
            wrong++;
            System.out.println(title + ": " + call + " answered " + got + ", due is " + want);
        }
    }

    /** A call that is refused: its answer, and that nothing becomes other by it but how often. */
    void refused(String call, DrawnGates x, int why, IntSupplier asking) {
        long before = x.digest();
        long once = weightOfTold(x, DrawnGates.BAD - why);
        is(call, asking.getAsInt(), why);
        is(call + ": what became other in the digest", x.digest() - before, once);
    }

    /** A call that is not refused: its answer, and that nothing at all becomes other by it. */
    void changesNothing(String call, DrawnGates x, int want, IntSupplier asking) {
        long before = x.digest();
        is(call, asking.getAsInt(), want);
        is(call + ": what became other in the digest", x.digest() - before, 0);
    }

    /** By how much the digest grows, if told(what) grows by one and all that follows stays. */
    private static long weightOfTold(DrawnGates x, int what) {
        int values = 5 + 9 + 4 + 6 * x.count(1) + 2 * x.count(0) + 1;
        if (x.ways() > 0) {
            values += x.count(4) + 10;
        }
        long weight = 1;
        for (int i = what + 1; i < values; i++) {
            weight *= 31;
        }
        return weight;
    }

    /** Prints the outcome; ends with exit code 1, if an answer was wrong. */
    void end() {
        System.out.println(title + ": " + asked + " answers, " + wrong + " wrong");
        if (wrong != 0 || asked == 0) {
            System.exit(1);
        }
    }

    /** Types all bytes of a text. */
    static void type(DrawnGates x, String text) {
        for (int i = 0; i < text.length(); i++) {
            x.type(text.charAt(i));
        }
    }

    /** Clears THE TEXT, types another, does it. */
    static int does(DrawnGates x, String text) {
        x.clear();
        type(x, text);
        return x.does();
    }
}
