/**
 * An object is used for at most 512 calls: each of them, the last too, answers as the model does, whatever
 * was called ahead of it; calls behind them may answer anything, but they end and throw nothing.
 */
public final class LifeTest {
    private static final int CALLS_OF_A_LIFE = 512;
    private static final int CALLS_BEHIND = 600;
    private static final int[][] GROUNDS = {{4, 4}, {1, 1}, {5, 5}, {5, 1}, {1, 5}, {3, 2}};
    private static final Calls calls = new Calls(CubeHeaps.class);
    private static final Calls modelCalls = new Calls(Model.class);
    private static final Check check = new Check("LifeTest");

    public static void main(String[] args) {
        for (int[] size : GROUNDS) {
            check.sentence("An object is used for at most 512 calls: on " + size[0] + " by " + size[1]);
            for (int last = 0; last < Calls.ALL.length; last++) life(size[0], size[1], last);
        }
        check.end();
    }

    /** Calls of all kinds, more often those that change something; the one that is told is the last. */
    private static void life(int w, int h, int last) {
        CubeHeaps x = new CubeHeaps();
        Model m = new Model();
        check.due("ground", x.ground(w, h), m.ground(w, h));
        for (int call = 2; call <= CALLS_OF_A_LIFE; call++) {
            int n = call * 7 + last;
            int kind = call % 3 == 0 ? 1 : call % 32 == 1 ? 13 : 1 + n * 5 % (Calls.ALL.length - 1);
            String[] words = Calls.ALL[call == CALLS_OF_A_LIFE ? last : kind].split(" ");
            Object[] arguments = arguments(words, n);
            long got = calls.ask(x, words[0], arguments);
            check.due("call " + call + ", " + words[0] + " by " + n, got, modelCalls.ask(m, words[0], arguments));
        }
        for (int i = 0; i < CALLS_BEHIND; i++) {
            String[] words = Calls.ALL[i % Calls.ALL.length].split(" ");
            calls.ask(x, words[0], arguments(words, i));
        }
    }

    private static Object[] arguments(String[] words, int n) {
        Object[] arguments = new Object[words.length - 1];
        for (int i = 0; i < arguments.length; i++) {
            arguments[i] = Calls.argument(words[i + 1], some(words[i + 1], n / 2 + i * (n / 5)));
        }
        return arguments;
    }

    /** Some number of a kind; most are right on the largest ground. */
    private static long some(String kind, int n) {
        switch (kind) {
            case "slot": case "direction": return n % 4;
            case "cell": return n % 25;
            case "flag": return n % 2;
            case "top": case "place": return n % 3;
            case "sum": return n % 21;
            case "t": return n % 8;
            case "v": return n % 6 == 0 ? CubeHeaps.NONE : n % 6;
            case "what": case "layer": return n % 6;
            case "w": case "h": return 1 + n % 5;
            default: return n % 5;
        }
    }
}
