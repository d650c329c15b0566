/**
 * Drawings told as rows of signs, a sign a cell:
 * d diffusion, p poly, g both (a gate cell); the same letters great: metal over them; m metal alone;
 * x, y, z: diffusion, poly, both, under metal and a cut; M metal and a cut;
 * c a cut alone, e and q a cut over diffusion and over poly, without metal; any other sign: nothing.
 */
final class Sketch {
    private static final String[] SIGNS_OF_LAYERS = {"dgDGxze", "pgPGyzq", "mDPGxyzM", "cxyzMeq"};

    private Sketch() {
    }

    static DrawnGates of(String... rows) {
        DrawnGates made = new DrawnGates();
        onto(made, rows);
        return made;
    }

    static void onto(DrawnGates made, String... rows) {
        for (int y = 0; y < rows.length; y++) {
            for (int x = 0; x < rows[y].length(); x++) {
                cell(made, rows[y].charAt(x), x, y);
            }
        }
    }

    static void cell(DrawnGates made, char sign, int x, int y) {
        for (int l = 0; l < 4; l++) {
            if (SIGNS_OF_LAYERS[l].indexOf(sign) >= 0) {
                made.draws(l, x, y, 1, 1);
            }
        }
    }
}
