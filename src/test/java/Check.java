import java.util.function.Supplier;
import java.util.function.ToLongFunction;

/** Compares answers with those that are due, and ends a test's main method. */
final class Check {
    private final String test;
    private int compared = 0;
    private int wrong = 0;
    private int sentences = 0;
    private int comparedBeforeSentence = 0;
    private String sentence = "";

    Check(String test) {
        this.test = test;
    }

    /** Names the sentence of the document that what is compared next belongs to. */
    void sentence(String text) {
        endSentence();
        sentences++;
        comparedBeforeSentence = compared;
        sentence = " [" + text + "]";
    }

    /** A sentence for which nothing is compared is not tested, and that is a fault of the test. */
    private void endSentence() {
        if (sentence.isEmpty() || compared > comparedBeforeSentence) return;
        wrong++;
        System.out.println(test + ":" + sentence + " nothing was compared");
    }

    void due(String call, long got, long want) {
        compared++;
        if (got == want) return;
        wrong++;
        System.out.println(test + ":" + sentence + " " + call + " answered " + got + ", due is " + want);
    }

    void holds(String what, boolean is) {
        compared++;
        if (is) return;
        wrong++;
        System.out.println(test + ":" + sentence + " it does not hold that " + what);
    }

    /** The heights of a slot, row by row, are those of a text. */
    void slotIs(CubeHeaps x, int slot, String due) {
        String got = heights(x, slot);
        holds("slot " + slot + " is " + due + ", it is " + got, got.equals(due));
    }

    /** A call answers so, and leaves an object as one of the same making that never got it. */
    void leaves(String call, Supplier<CubeHeaps> made, ToLongFunction<CubeHeaps> asked, long answer) {
        CubeHeaps x = made.get();
        due(call, asked.applyAsLong(x), answer);
        unchanged(call, x, made.get());
    }

    /** Two objects hold the same. */
    void unchanged(String call, CubeHeaps used, CubeHeaps twin) {
        String got = look(used);
        String want = look(twin);
        holds(call + " changes nothing; it is " + got + ", it was " + want, got.equals(want));
    }

    void end() {
        endSentence();
        System.out.println(test + ": " + compared + " compared"
            + (sentences > 0 ? " for " + sentences + " sentences" : "") + ", " + wrong + " wrong");
        if (wrong != 0 || compared == 0) System.exit(1);
    }

    static long power(long base, int times) {
        long product = 1;
        for (int i = 0; i < times; i++) product *= base;
        return product;
    }

    static CubeHeaps on(int w, int h) {
        CubeHeaps x = new CubeHeaps();
        x.ground(w, h);
        return x;
    }

    /** A ground with a heap in slot 0. */
    static CubeHeaps with(int w, int h, String digits) {
        CubeHeaps x = on(w, h);
        heap(x, 0, digits);
        return x;
    }

    /** Each slot has another heap (1 is full, 3 is empty), and something is told of all kinds. */
    static CubeHeaps busy(int w, int h) {
        CubeHeaps x = on(w, h);
        for (int cell = 0; cell < w * h; cell++) {
            x.set(0, cell, (cell * 7 + 1) % 5);
            x.set(1, cell, 4);
            x.set(2, cell, (cell * 3 + 2) % 5);
        }
        x.tellAs(2, true);
        x.tell(true, w - 1, CubeHeaps.NONE);
        x.tellTop(0, CubeHeaps.NONE);
        x.sumsAs(0);
        return x;
    }

    /** Each height of a slot becomes the same. */
    static void level(CubeHeaps x, int slot, int height) {
        int cells = x.about(4);
        for (int cell = 0; cell < cells; cell++) x.set(slot, cell, height);
    }

    static CubeHeaps full(int w, int h) {
        CubeHeaps x = on(w, h);
        level(x, 0, 4);
        return x;
    }

    /** Sets the heights of a slot, cell by cell, from a text of digits; blanks part the rows. */
    static void heap(CubeHeaps x, int slot, String digits) {
        String heights = digits.replace(" ", "");
        for (int cell = 0; cell < heights.length(); cell++) x.set(slot, cell, heights.charAt(cell) - '0');
    }

    /** The heights of a slot, row by row. */
    static String heights(CubeHeaps x, int slot) {
        int w = x.about(0);
        int cells = x.about(4);
        StringBuilder text = new StringBuilder();
        for (int cell = 0; cell < cells; cell++) {
            if (cell > 0 && cell % w == 0) text.append(' ');
            text.append(x.height(slot, cell));
        }
        return text.toString();
    }

    /** All that an object holds, as state tells it, and what follows from that; at most 230 calls. */
    static String look(CubeHeaps x) {
        StringBuilder text = new StringBuilder();
        text.append("told ").append(x.about(2)).append(' ').append(x.about(3));
        text.append("; fit ").append(x.heaps()).append(' ').append(x.count(false)).append(' ').append(x.count(true));
        text.append("; places");
        for (int slot = 0; slot < 4; slot++) text.append(' ').append(x.place(slot));
        text.append("; by sums ").append(x.bySums());
        return text.append("; ").append(state(x)).toString();
    }

    /** All that an object holds: ground, slots, what is told, sums; at most 202 calls. */
    static String state(CubeHeaps x) {
        StringBuilder text = new StringBuilder();
        int[] lines = {x.about(0), x.about(1)};
        text.append(lines[0]).append(" by ").append(lines[1]);
        for (int slot = 0; slot < 4; slot++) text.append("; ").append(heights(x, slot));
        for (int side = 0; side < 2; side++) {
            boolean column = side == 0;
            text.append(column ? "; columns" : "; rows");
            for (int line = 0; line < lines[side]; line++) {
                int v = x.tell(column, line, CubeHeaps.NONE);
                x.tell(column, line, v);
                int sum = x.tellSum(column, line, 0);
                x.tellSum(column, line, sum);
                text.append(' ').append(v).append('/').append(sum);
            }
        }
        text.append("; tops");
        for (int cell = 0; cell < lines[0] * lines[1]; cell++) {
            int v = x.tellTop(cell, CubeHeaps.NONE);
            x.tellTop(cell, v);
            text.append(' ').append(v);
        }
        return text.toString();
    }
}
