import java.util.ArrayList;
import java.util.List;

/**
 * REFUSALS, of several the first that a call names: every call with all mixtures of arguments that are just
 * right, just wrong and far off, on the smallest, the largest and other grounds. What is refused changes
 * nothing; what is right is not refused, and answers as the model does.
 */
public final class RefusalsTest {
    private static final int[][] GROUNDS = {{4, 4}, {1, 1}, {5, 5}, {5, 1}, {1, 5}, {3, 2}};
    private static final Calls calls = new Calls(CubeHeaps.class);
    private static final Calls modelCalls = new Calls(Model.class);
    private static final Check check = new Check("RefusalsTest");

    public static void main(String[] args) {
        for (String call : Calls.ALL) {
            check.sentence("REFUSALS, of several the first that a call names: " + call);
            for (int[] size : GROUNDS) {
                String[] words = call.split(" ");
                mixtures(words, size[0], size[1]);
            }
        }
        check.end();
    }

    /** A list of arguments, and how the first wrong one of them is refused; 0: all are right. */
    private record Mixture(List<Object> arguments, boolean column, int refusal) {
        Mixture() {
            this(new ArrayList<>(), false, 0);
        }

        Mixture and(String kind, long value, boolean wrong) {
            List<Object> more = new ArrayList<>(arguments);
            more.add(Calls.argument(kind, value));
            boolean ofColumns = kind.equals("flag") ? value == 1 : kind.equals("direction") ? value % 2 != 0 : column;
            return new Mixture(more, ofColumns, refusal != 0 || !wrong ? refusal : Calls.refusal(kind));
        }
    }

    private static void mixtures(String[] words, int w, int h) {
        long heaps = Check.busy(w, h).heaps();
        List<Mixture> mixed = List.of(new Mixture());
        for (int i = 1; i < words.length; i++) mixed = more(mixed, words[i], w, h, heaps);
        CubeHeaps refused = Check.busy(w, h);
        for (Mixture one : mixed) {
            if (one.refusal != 0) isRefused(refused, words[0], one, w, h);
            else isAnswered(words[0], one, w, h);
        }
        check.unchanged(words[0] + " that is refused on " + w + " by " + h, refused, Check.busy(w, h));
    }

    private static List<Mixture> more(List<Mixture> mixed, String kind, int w, int h, long heaps) {
        List<Mixture> more = new ArrayList<>();
        for (Mixture one : mixed) {
            for (long value : Calls.right(kind, w, h, one.column, heaps)) more.add(one.and(kind, value, false));
            for (long value : Calls.wrong(kind, w, h, one.column, heaps)) more.add(one.and(kind, value, true));
        }
        return more;
    }

    private static void isRefused(CubeHeaps x, String name, Mixture one, int w, int h) {
        check.due(name + one.arguments + " on " + w + " by " + h,
            calls.ask(x, name, one.arguments.toArray()), one.refusal);
    }

    private static void isAnswered(String name, Mixture one, int w, int h) {
        CubeHeaps x = Check.busy(w, h);
        Model m = busyModel(w, h);
        long got = calls.ask(x, name, one.arguments.toArray());
        String what = name + one.arguments + " on " + w + " by " + h;
        check.due(what, got, modelCalls.ask(m, name, one.arguments.toArray()));
        check.holds(what + " is not refused as unknown or outside", got != CubeHeaps.UNKNOWN && got != CubeHeaps.OUTSIDE);
    }

    /** The model made as Check.busy makes an object. */
    private static Model busyModel(int w, int h) {
        Model m = new Model();
        m.ground(w, h);
        for (int cell = 0; cell < w * h; cell++) {
            m.set(0, cell, (cell * 7 + 1) % 5);
            m.set(1, cell, 4);
            m.set(2, cell, (cell * 3 + 2) % 5);
        }
        m.tellAs(2, true);
        m.tell(true, w - 1, CubeHeaps.NONE);
        m.tellTop(0, CubeHeaps.NONE);
        m.sumsAs(0);
        return m;
    }
}
