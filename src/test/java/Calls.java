import java.lang.reflect.InvocationTargetException;
import java.lang.reflect.Method;
import java.util.HashMap;
import java.util.Map;

/**
 * The calls of the face, each with what its arguments are, in the order in which the document names their
 * refusals (it is the order of the arguments for all of them); and how to call them by name, on an object of
 * CubeHeaps or of the model.
 */
final class Calls {
    static final String[] ALL = {"ground w h", "set slot cell height", "height slot cell", "copy slot slot",
        "cubes slot", "front slot column", "side slot row", "sum slot flag line", "seen slot direction line",
        "skin slot", "layer slot layer flag", "water slot", "level slot cell", "tell flag line v", "tellTop cell top",
        "tellAs slot flag", "fits slot", "heaps", "with cell height", "span cell flag", "count flag", "lay slot place",
        "place slot", "tellSum flag line sum", "sumsAs slot", "bySums", "laySums slot", "spanSums cell flag",
        "carry slot slot", "turn slot t", "alike slot slot", "same slot", "least slot", "about what"};

    private static final int NONE = CubeHeaps.NONE;
    private static final int MAX = Integer.MAX_VALUE, MIN = Integer.MIN_VALUE;

    private final Map<String, Method> methods = new HashMap<>();

    Calls(Class<?> of) {
        for (Method method : of.getDeclaredMethods()) {
            for (String call : ALL) {
                String[] words = call.split(" ");
                if (method.getName().equals(words[0]) && method.getParameterCount() == words.length - 1) {
                    methods.put(words[0], method);
                }
            }
        }
    }

    long ask(Object heaps, String name, Object... arguments) {
        try {
            return ((Number) methods.get(name).invoke(heaps, arguments)).longValue();
        } catch (IllegalAccessException | InvocationTargetException e) {
            throw new IllegalStateException(name + " threw", e);
        }
    }

    /** The argument as its call takes it: flags are told as 0 and 1, places are longs. */
    static Object argument(String kind, long value) {
        if (kind.equals("flag")) return value == 1;
        if (kind.equals("place")) return value;
        return (int) value;
    }

    /** Numbers of a kind that are right: the least, the greatest, and all where they are few. */
    static long[] right(String kind, int w, int h, boolean column, long heaps) {
        switch (kind) {
            case "slot": return new long[] {0, 3};
            case "cell": return new long[] {0, w * h - 1};
            case "column": return new long[] {0, w - 1};
            case "row": return new long[] {0, h - 1};
            case "line": return new long[] {0, (column ? w : h) - 1};
            case "flag": return new long[] {0, 1};
            case "height": return new long[] {0, 4};
            case "direction": return new long[] {0, 1, 2, 3};
            case "layer": return new long[] {1, 4};
            case "v": return new long[] {0, 4, NONE};
            case "top": return new long[] {0, 1, NONE};
            case "sum": return new long[] {0, 20};
            case "t": return new long[] {0, 2, 4, 6};
            case "what": return new long[] {0, 1, 2, 3, 4};
            case "place": return heaps == 0 ? new long[0] : new long[] {0, heaps - 1};
            default: return new long[] {1, 5};
        }
    }

    /** Numbers of a kind that are wrong: the ones just below and just above, and some far away. */
    static long[] wrong(String kind, int w, int h, boolean column, long heaps) {
        switch (kind) {
            case "slot": return new long[] {-1, 4, MIN};
            case "cell": return new long[] {-1, w * h, MAX};
            case "column": return new long[] {-1, w, MAX, MIN};
            case "row": return new long[] {-1, h, MAX, MIN};
            case "line": return new long[] {-1, column ? w : h, MIN};
            case "flag": return new long[0];
            case "height": return new long[] {-1, 5, MIN};
            case "direction": return new long[] {-1, 4, MAX};
            case "layer": return new long[] {0, 5, -1, MAX, MIN};
            case "v": return new long[] {-1, 5, -8, -10};
            case "top": return new long[] {-1, 2, -8, -10, MAX, MIN};
            case "sum": return new long[] {-1, 21, NONE, MAX};
            case "t": return new long[] {-1, 8, MAX, MIN};
            case "what": return new long[] {-1, 5, MAX, MIN};
            case "place": return new long[] {-1, heaps, heaps + 1, Long.MAX_VALUE, Long.MIN_VALUE};
            default: return new long[] {0, 6, -1, MAX, MIN};
        }
    }

    /** How a wrong number of a kind is refused. */
    static int refusal(String kind) {
        switch (kind) {
            case "slot": case "cell": case "column": case "row": case "line": return CubeHeaps.UNKNOWN;
            default: return CubeHeaps.OUTSIDE;
        }
    }
}
