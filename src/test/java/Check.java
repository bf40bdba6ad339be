/** Compares answers with those that are due, and ends a test's main method. */
final class Check {
    private final String test;
    private int compared = 0;
    private int wrong = 0;

    Check(String test) {
        this.test = test;
    }

    void due(String call, long got, long want) {
        compared++;
        if (got == want) return;
        wrong++;
        System.out.println(test + ": " + call + " answered " + got + ", due is " + want);
    }

    void holds(String what, boolean is) {
        compared++;
        if (is) return;
        wrong++;
        System.out.println(test + ": it does not hold that " + what);
    }

    void end() {
        System.out.println(test + ": " + compared + " compared, " + wrong + " wrong");
        if (wrong != 0 || compared == 0) System.exit(1);
    }

    /** Sets the heights of a slot, cell by cell, from a text of digits; blanks part the rows. */
    static void heap(CubeHeaps x, int slot, String digits) {
        String heights = digits.replace(" ", "");
        for (int cell = 0; cell < heights.length(); cell++) x.set(slot, cell, heights.charAt(cell) - '0');
    }

    /** The heights of a slot, row by row. */
    static String heights(CubeHeaps x, int slot) {
        StringBuilder text = new StringBuilder();
        for (int cell = 0; cell < x.about(4); cell++) {
            if (cell > 0 && cell % x.about(0) == 0) text.append(' ');
            text.append(x.height(slot, cell));
        }
        return text.toString();
    }

    /** All that an object holds and can tell: ground, slots, what is told, sums. */
    static String state(CubeHeaps x) {
        StringBuilder text = new StringBuilder();
        text.append(x.about(0)).append(" by ").append(x.about(1));
        for (int slot = 0; slot < 4; slot++) text.append("; ").append(heights(x, slot));
        for (int side = 0; side < 2; side++) {
            boolean column = side == 0;
            text.append(column ? "; columns" : "; rows");
            for (int line = 0; line < x.about(side); line++) {
                int v = x.tell(column, line, CubeHeaps.NONE);
                x.tell(column, line, v);
                int sum = x.tellSum(column, line, 0);
                x.tellSum(column, line, sum);
                text.append(' ').append(v).append('/').append(sum);
            }
        }
        text.append("; tops");
        for (int cell = 0; cell < x.about(4); cell++) {
            int v = x.tellTop(cell, CubeHeaps.NONE);
            x.tellTop(cell, v);
            text.append(' ').append(v);
        }
        return text.toString();
    }
}
