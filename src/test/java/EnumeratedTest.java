import java.util.ArrayList;
import java.util.List;

/**
 * The document taken by its words on small grounds: all heaps are made one by one in order and looked at, all
 * ways of water to beyond the edge are gone, all ways to carry cubes are tried. Nothing here is worked out in
 * a short way, so that it stands on its own beside the class and the model.
 */
public final class EnumeratedTest {
    private static final int NONE = CubeHeaps.NONE, STATE = CubeHeaps.STATE, OUTSIDE = CubeHeaps.OUTSIDE;
    private static final int MOST_CELLS_FOR_ALL_HEAPS = 6;
    private static final Check check = new Check("EnumeratedTest");

    private static long seed = 7;
    private static int w;
    private static int h;
    private static CubeHeaps x;

    public static void main(String[] args) {
        toldAndSums();
        water();
        carrying();
        turning();
        check.end();
    }

    /** A number from 0 to below n. */
    private static int any(int n) {
        seed = seed * 6364136223846793005L + 1442695040888963407L;
        return (int) ((seed >>> 33) % n);
    }

    private static void ground(int wide, int deep) {
        w = wide;
        h = deep;
        x = Check.on(wide, deep);
    }

    private static int[] anyHeap(int heights) {
        int[] heap = new int[w * h];
        for (int cell = 0; cell < w * h; cell++) heap[cell] = any(heights);
        return heap;
    }

    private static void put(int slot, int[] heap) {
        for (int cell = 0; cell < w * h; cell++) x.set(slot, cell, heap[cell]);
    }

    private static String text(int[] heap) {
        StringBuilder text = new StringBuilder();
        for (int cell = 0; cell < heap.length; cell++) {
            if (cell > 0 && cell % w == 0) text.append(' ');
            text.append(heap[cell]);
        }
        return text.toString();
    }

    private static int cubes(int[] heap) {
        int cubes = 0;
        for (int height : heap) cubes += height;
        return cubes;
    }

    // ---- all heaps that fit, all heaps for sums

    private static final int[] fronts = new int[5], sides = new int[5], tops = new int[25];
    private static final int[] columnSums = new int[5], rowSums = new int[5];

    private static void toldAndSums() {
        check.sentence("A HEAP FITS, if each that is told is so; those that FIT have PLACES 0, 1, ..; SUMS");
        for (int wide = 1; wide <= 5; wide++) {
            for (int deep = 1; deep <= 5; deep++) {
                if (wide * deep > MOST_CELLS_FOR_ALL_HEAPS) continue;
                List<int[]> all = allHeaps(wide * deep);
                for (int round = 0; round < 60; round++) {
                    ground(wide, deep);
                    tellSome(round % 4);
                    compareFitting(all.stream().filter(EnumeratedTest::fits).toList());
                    compareSums(all.stream().filter(EnumeratedTest::hasSums).toList());
                }
            }
        }
    }

    /** All heaps in order: the last cell changes first. */
    private static List<int[]> allHeaps(int cells) {
        List<int[]> all = new ArrayList<>();
        for (int n = 0; n < Check.power(5, cells); n++) {
            int[] heap = new int[cells];
            int rest = n;
            for (int cell = cells - 1; cell >= 0; cell--) {
                heap[cell] = rest % 5;
                rest /= 5;
            }
            all.add(heap);
        }
        return all;
    }

    /** Most is told as some heap has it, so that some fit; the less often, the higher the kind. */
    private static void tellSome(int kind) {
        int[] heap = anyHeap(2 + any(4));
        for (int column = 0; column < w; column++) {
            fronts[column] = any(3) < kind ? NONE : any(12) == 0 ? any(5) : tallest(heap, true, column);
            columnSums[column] = any(20) == 0 ? any(21) : sum(heap, true, column);
            check.due("tell", x.tell(true, column, fronts[column]), NONE);
            check.due("tellSum", x.tellSum(true, column, columnSums[column]), 0);
        }
        for (int row = 0; row < h; row++) {
            sides[row] = any(3) < kind ? NONE : any(12) == 0 ? any(5) : tallest(heap, false, row);
            rowSums[row] = any(20) == 0 ? any(21) : sum(heap, false, row);
            check.due("tell", x.tell(false, row, sides[row]), NONE);
            check.due("tellSum", x.tellSum(false, row, rowSums[row]), 0);
        }
        for (int cell = 0; cell < w * h; cell++) {
            tops[cell] = any(4) <= kind ? NONE : any(12) == 0 ? any(2) : top(heap, cell);
            check.due("tellTop", x.tellTop(cell, tops[cell]), NONE);
        }
    }

    private static int top(int[] heap, int cell) {
        return heap[cell] > 0 ? 1 : 0;
    }

    private static boolean inLine(int cell, boolean column, int line) {
        return (column ? cell % w : cell / w) == line;
    }

    private static int tallest(int[] heap, boolean column, int line) {
        int tallest = 0;
        for (int cell = 0; cell < heap.length; cell++) {
            if (inLine(cell, column, line)) tallest = Math.max(tallest, heap[cell]);
        }
        return tallest;
    }

    private static int sum(int[] heap, boolean column, int line) {
        int sum = 0;
        for (int cell = 0; cell < heap.length; cell++) {
            if (inLine(cell, column, line)) sum += heap[cell];
        }
        return sum;
    }

    private static boolean topsAreSo(int[] heap) {
        for (int cell = 0; cell < heap.length; cell++) {
            if (tops[cell] != NONE && tops[cell] != top(heap, cell)) return false;
        }
        return true;
    }

    private static boolean fits(int[] heap) {
        for (int column = 0; column < w; column++) {
            if (fronts[column] != NONE && fronts[column] != tallest(heap, true, column)) return false;
        }
        for (int row = 0; row < h; row++) {
            if (sides[row] != NONE && sides[row] != tallest(heap, false, row)) return false;
        }
        return topsAreSo(heap);
    }

    private static boolean hasSums(int[] heap) {
        for (int column = 0; column < w; column++) {
            if (columnSums[column] != sum(heap, true, column)) return false;
        }
        for (int row = 0; row < h; row++) {
            if (rowSums[row] != sum(heap, false, row)) return false;
        }
        return topsAreSo(heap);
    }

    /** The least, or the greatest, height of a cell. */
    private static int extreme(List<int[]> heaps, int cell, boolean most) {
        int found = NONE;
        for (int[] heap : heaps) {
            if (found == NONE || (most ? heap[cell] > found : heap[cell] < found)) found = heap[cell];
        }
        return found;
    }

    private static int extremeCubes(List<int[]> heaps, boolean most) {
        int found = NONE;
        for (int[] heap : heaps) {
            int cubes = cubes(heap);
            if (found == NONE || (most ? cubes > found : cubes < found)) found = cubes;
        }
        return found;
    }

    private static void compareFitting(List<int[]> fitting) {
        check.due("heaps()", x.heaps(), fitting.size());
        check.due("count(false)", x.count(false), extremeCubes(fitting, false));
        check.due("count(true)", x.count(true), extremeCubes(fitting, true));
        for (int cell = 0; cell < w * h; cell++) {
            int at = cell;
            for (int height = 0; height <= 4; height++) {
                int of = height;
                check.due("with(" + cell + ", " + height + ")", x.with(cell, height),
                    fitting.stream().filter(heap -> heap[at] == of).count());
            }
            check.due("span(" + cell + ", false)", x.span(cell, false), extreme(fitting, cell, false));
            check.due("span(" + cell + ", true)", x.span(cell, true), extreme(fitting, cell, true));
        }
        for (int i = 0; i < 12 && !fitting.isEmpty(); i++) {
            comparePlace(fitting, i == 0 ? 0 : i == 1 ? fitting.size() - 1 : any(fitting.size()));
        }
        check.due("lay behind all", x.lay(1, fitting.size()), OUTSIDE);
        int[] heap = anyHeap(5);
        put(2, heap);
        check.due("fits(2)", x.fits(2), fits(heap) ? 1 : 0);
        if (!fits(heap)) check.due("place(2)", x.place(2), STATE);
    }

    private static void comparePlace(List<int[]> fitting, int place) {
        int[] heap = fitting.get(place);
        check.due("lay(1, " + place + ")", x.lay(1, place), cubes(heap));
        check.slotIs(x, 1, text(heap));
        check.due("place(1)", x.place(1), place);
        check.due("fits(1)", x.fits(1), 1);
    }

    private static void compareSums(List<int[]> having) {
        check.due("bySums()", x.bySums(), Math.min(2, having.size()));
        check.due("laySums(3)", x.laySums(3), having.isEmpty() ? STATE : cubes(having.get(0)));
        if (!having.isEmpty()) check.slotIs(x, 3, text(having.get(0)));
        for (int cell = 0; cell < w * h; cell++) {
            check.due("spanSums(" + cell + ", false)", x.spanSums(cell, false), extreme(having, cell, false));
            check.due("spanSums(" + cell + ", true)", x.spanSums(cell, true), extreme(having, cell, true));
        }
    }

    // ---- water

    private static void water() {
        check.sentence("as high as the least that is, on some way by sides of CELLS to beyond the edge, the greatest HEIGHT");
        int[][] grounds = {{3, 3}, {4, 3}, {3, 4}, {5, 3}, {4, 4}, {2, 5}, {1, 4}};
        for (int[] size : grounds) {
            for (int round = 0; round < 60; round++) {
                ground(size[0], size[1]);
                int[] heap = anyHeap(3 + any(3));
                put(0, heap);
                int water = 0;
                for (int cell = 0; cell < w * h; cell++) {
                    int level = leastOfWays(heap, cell % w, cell / w, 0, new boolean[w * h]);
                    check.due("level(0, " + cell + ") of " + text(heap), x.level(0, cell), level);
                    water += level - heap[cell];
                }
                check.due("water(0) of " + text(heap), x.water(0), water);
            }
        }
    }

    /** Goes on from a cell on all ways that come to no cell twice; greatest is that of the cells before it. */
    private static int leastOfWays(int[] heap, int atX, int atY, int greatest, boolean[] been) {
        if (atX < 0 || atX >= w || atY < 0 || atY >= h) return greatest;
        int cell = atY * w + atX;
        if (been[cell]) return Integer.MAX_VALUE;
        been[cell] = true;
        int now = Math.max(greatest, heap[cell]);
        int least = leastOfWays(heap, atX - 1, atY, now, been);
        least = Math.min(least, leastOfWays(heap, atX + 1, atY, now, been));
        least = Math.min(least, leastOfWays(heap, atX, atY - 1, now, been));
        least = Math.min(least, leastOfWays(heap, atX, atY + 1, now, been));
        been[cell] = false;
        return least;
    }

    // ---- carrying

    private static void carrying() {
        check.sentence("THE LEAST CARRYING: so few steps together; NONE: they have not as many");
        for (int round = 0; round < 600; round++) {
            ground(1 + any(5), 1 + any(5));
            int cubes = any(8);
            List<Integer> here = someCubes(0, cubes);
            List<Integer> there = someCubes(1, cubes);
            boolean asMany = here.size() == there.size();
            int due = asMany ? leastOfCarryings(here, there, 0, new boolean[there.size()]) : NONE;
            check.due("carry(0, 1)", x.carry(0, 1), due);
            check.due("carry(1, 0)", x.carry(1, 0), due);
        }
    }

    /** Puts cubes on cells of a slot that are not full, and answers the cell of each that found room. */
    private static List<Integer> someCubes(int slot, int cubes) {
        List<Integer> cells = new ArrayList<>();
        for (int i = 0; i < cubes; i++) {
            int cell = any(w * h);
            int height = x.height(slot, cell);
            if (height == 4) continue;
            x.set(slot, cell, height + 1);
            cells.add(cell);
        }
        return cells;
    }

    /** Carries the n-th cube and those behind it to places that are not taken, in all ways. */
    private static int leastOfCarryings(List<Integer> here, List<Integer> there, int n, boolean[] taken) {
        if (n == here.size()) return 0;
        int least = Integer.MAX_VALUE;
        for (int i = 0; i < taken.length; i++) {
            if (taken[i]) continue;
            taken[i] = true;
            least = Math.min(least, steps(here.get(n), there.get(i)) + leastOfCarryings(here, there, n + 1, taken));
            taken[i] = false;
        }
        return least;
    }

    private static int steps(int one, int other) {
        return Math.abs(one % w - other % w) + Math.abs(one / w - other / w);
    }

    // ---- turned

    private static void turning() {
        check.sentence("TURNS: by quarters, mirrored first; ALIKE; THE LEAST: of all it becomes so the first in order");
        for (int round = 0; round < 1500; round++) {
            int wide = 1 + any(5);
            ground(wide, any(3) == 0 ? 1 + any(5) : wide);
            int[] heap = anyHeap(1 + any(3));
            put(0, heap);
            int same = 0;
            int least = 0;
            for (int t = 0; t < 8; t++) {
                if (t % 2 == 1 && w != h) continue;
                int[] becomes = turned(heap, t);
                compareTurn(heap, becomes, t);
                if (text(becomes).equals(text(heap))) same++;
                if (text(becomes).compareTo(text(turned(heap, least))) < 0) least = t;
            }
            check.due("same(0) of " + text(heap), x.same(0), same);
            check.due("least(0) of " + text(heap), x.least(0), least);
            check.slotIs(x, 0, text(turned(heap, least)));
        }
    }

    private static void compareTurn(int[] heap, int[] becomes, int t) {
        put(1, heap);
        int otherwise = 0;
        for (int cell = 0; cell < w * h; cell++) otherwise += becomes[cell] != heap[cell] ? 1 : 0;
        check.due("turn(1, " + t + ") of " + text(heap), x.turn(1, t), otherwise);
        check.slotIs(x, 1, text(becomes));
        check.due("alike(0, 1)", x.alike(0, 1), 1);
        check.due("alike(1, 0)", x.alike(1, 0), 1);
    }

    /** Mirror and quarters one after the other; a quarter changes what is W and what is H. */
    private static int[] turned(int[] heap, int t) {
        int[] now = heap.clone();
        int wide = w;
        int deep = h;
        if (t >= 4) {
            for (int cell = 0; cell < now.length; cell++) now[cell / w * w + (w - 1 - cell % w)] = heap[cell];
        }
        for (int quarter = 0; quarter < t % 4; quarter++) {
            int[] next = new int[now.length];
            for (int cell = 0; cell < now.length; cell++) {
                int toX = deep - 1 - cell / wide;
                int toY = cell % wide;
                next[toY * deep + toX] = now[cell];
            }
            now = next;
            int was = wide;
            wide = deep;
            deep = was;
        }
        return now;
    }
}
