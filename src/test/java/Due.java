/** Compares answers with those that are due, and counts the wrong ones. */
final class Due {
    private final String title;
    private int asked = 0;
    private int wrong = 0;

    Due(String title) {
        this.title = title;
    }

    void is(String call, long got, long want) {
        asked++;
        if (got != want) {
            wrong++;
            System.out.println(title + ": " + call + " answered " + got + ", due is " + want);
        }
    }

    /** Prints the outcome; ends with exit code 1, if an answer was wrong. */
    void end() {
        System.out.println(title + ": " + asked + " answers, " + wrong + " wrong");
        if (wrong != 0 || asked == 0) {
            System.exit(1);
        }
    }

    /** Types all bytes of a text. */
    static void type(DrawnGates x, String text) {
        for (int i = 0; i < text.length(); i++) {
            x.type(text.charAt(i));
        }
    }

    /** Clears THE TEXT, types another, does it. */
    static int does(DrawnGates x, String text) {
        x.clear();
        type(x, text);
        return x.does();
    }
}
