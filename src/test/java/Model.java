import java.util.ArrayDeque;
import java.util.Arrays;

/**
 * The document in another way, slow and plain, to compare answers with: heaps that fit are counted by
 * leaving out (1,024 sets of lines), heaps for sums are told by cuts, cubes are assigned one by one,
 * skins are counted cube by cube.
 */
final class Model {
    static final int UNKNOWN = -1, OUTSIDE = -2, STATE = -3, NONE = -9;

    private int w;
    private int h;
    private int[][] slots;
    private int[] fronts;
    private int[] sides;
    private int[] tops;
    private int[] columnSums;
    private int[] rowSums;

    Model() {
        ground(4, 4);
    }

    private boolean slot(int slot) {
        return 0 <= slot && slot <= 3;
    }

    private boolean cell(int cell) {
        return 0 <= cell && cell < w * h;
    }

    private boolean line(boolean column, int line) {
        return 0 <= line && line < (column ? w : h);
    }

    int ground(int w, int h) {
        if (w < 1 || h < 1 || w > 5 || h > 5) return OUTSIDE;
        this.w = w;
        this.h = h;
        slots = new int[4][w * h];
        fronts = new int[w];
        sides = new int[h];
        tops = new int[w * h];
        Arrays.fill(fronts, NONE);
        Arrays.fill(sides, NONE);
        Arrays.fill(tops, NONE);
        columnSums = new int[w];
        rowSums = new int[h];
        return w * h;
    }

    int set(int slot, int cell, int height) {
        if (!slot(slot) || !cell(cell)) return UNKNOWN;
        if (height < 0 || height > 4) return OUTSIDE;
        int was = slots[slot][cell];
        slots[slot][cell] = height;
        return was;
    }

    int height(int slot, int cell) {
        return !slot(slot) || !cell(cell) ? UNKNOWN : slots[slot][cell];
    }

    private int become(int slot, int[] heap) {
        int changed = 0;
        for (int i = 0; i < heap.length; i++) {
            if (slots[slot][i] != heap[i]) changed++;
        }
        slots[slot] = heap.clone();
        return changed;
    }

    int copy(int from, int to) {
        return !slot(from) || !slot(to) ? UNKNOWN : become(to, slots[from]);
    }

    int cubes(int slot) {
        return !slot(slot) ? UNKNOWN : Arrays.stream(slots[slot]).sum();
    }

    private int[] lineHeights(int[] heap, boolean column, int line) {
        int[] heights = new int[column ? h : w];
        for (int i = 0; i < heights.length; i++) heights[i] = column ? heap[i * w + line] : heap[line * w + i];
        return heights;
    }

    private int tallest(int slot, boolean column, int line) {
        return Arrays.stream(lineHeights(slots[slot], column, line)).max().getAsInt();
    }

    int front(int slot, int column) {
        return !slot(slot) || !line(true, column) ? UNKNOWN : tallest(slot, true, column);
    }

    int side(int slot, int row) {
        return !slot(slot) || !line(false, row) ? UNKNOWN : tallest(slot, false, row);
    }

    int sum(int slot, boolean column, int line) {
        if (!slot(slot) || !line(column, line)) return UNKNOWN;
        return Arrays.stream(lineHeights(slots[slot], column, line)).sum();
    }

    int seen(int slot, int direction, int line) {
        if (!slot(slot)) return UNKNOWN;
        if (direction < 0 || direction > 3) return OUTSIDE;
        boolean column = direction % 2 == 1;
        if (!line(column, line)) return UNKNOWN;
        int[] heights = lineHeights(slots[slot], column, line);
        int seen = 0;
        for (int i = 0; i < heights.length; i++) {
            boolean hidden = heights[i] == 0;
            for (int j = 0; j < heights.length; j++) {
                boolean nearer = direction < 2 ? j < i : j > i;
                if (nearer && heights[j] >= heights[i]) hidden = true;
            }
            if (!hidden) seen++;
        }
        return seen;
    }

    private boolean cube(int[] heap, int x, int y, int z) {
        return x >= 0 && x < w && y >= 0 && y < h && z >= 0 && z < heap[y * w + x];
    }

    int skin(int slot) {
        if (!slot(slot)) return UNKNOWN;
        int[] heap = slots[slot];
        int faces = 0;
        for (int x = 0; x < w; x++) {
            for (int y = 0; y < h; y++) {
                for (int z = 0; z < 4; z++) {
                    if (!cube(heap, x, y, z)) continue;
                    if (!cube(heap, x, y, z + 1)) faces++;
                    if (!cube(heap, x - 1, y, z)) faces++;
                    if (!cube(heap, x + 1, y, z)) faces++;
                    if (!cube(heap, x, y - 1, z)) faces++;
                    if (!cube(heap, x, y + 1, z)) faces++;
                }
            }
        }
        return faces;
    }

    private boolean beside(int one, int other) {
        return Math.abs(one % w - other % w) + Math.abs(one / w - other / w) == 1;
    }

    int layer(int slot, int layer, boolean parts) {
        if (!slot(slot)) return UNKNOWN;
        if (layer < 1 || layer > 4) return OUTSIDE;
        int[] heap = slots[slot];
        int[] part = new int[w * h];
        for (int i = 0; i < part.length; i++) part[i] = heap[i] >= layer ? i : NONE;
        if (!parts) return (int) Arrays.stream(part).filter(p -> p != NONE).count();
        for (int i = 0; i < part.length; i++) {
            for (int j = 0; j < part.length; j++) {
                if (part[i] == NONE || part[j] == NONE || !beside(i, j)) continue;
                int from = part[j];
                int to = part[i];
                for (int k = 0; k < part.length; k++) {
                    if (part[k] == from) part[k] = to;
                }
            }
        }
        return (int) Arrays.stream(part).filter(p -> p != NONE).distinct().count();
    }

    /** The least height under which a flood from the cell reaches the edge. */
    private int waterLevel(int[] heap, int start) {
        for (int level = heap[start]; level <= 4; level++) {
            boolean[] wet = new boolean[w * h];
            ArrayDeque<Integer> waiting = new ArrayDeque<>();
            wet[start] = true;
            waiting.add(start);
            while (!waiting.isEmpty()) {
                int cell = waiting.remove();
                int x = cell % w;
                int y = cell / w;
                if (x == 0 || y == 0 || x == w - 1 || y == h - 1) return level;
                for (int next = 0; next < w * h; next++) {
                    if (!wet[next] && beside(cell, next) && heap[next] <= level) {
                        wet[next] = true;
                        waiting.add(next);
                    }
                }
            }
        }
        throw new IllegalStateException("no way to the edge");
    }

    int water(int slot) {
        if (!slot(slot)) return UNKNOWN;
        int water = 0;
        for (int cell = 0; cell < w * h; cell++) water += waterLevel(slots[slot], cell) - slots[slot][cell];
        return water;
    }

    int level(int slot, int cell) {
        return !slot(slot) || !cell(cell) ? UNKNOWN : waterLevel(slots[slot], cell);
    }

    int tell(boolean column, int line, int v) {
        if (!line(column, line)) return UNKNOWN;
        if (v != NONE && (v < 0 || v > 4)) return OUTSIDE;
        int[] told = column ? fronts : sides;
        int was = told[line];
        told[line] = v;
        return was;
    }

    int tellTop(int cell, int v) {
        if (!cell(cell)) return UNKNOWN;
        if (v != NONE && v != 0 && v != 1) return OUTSIDE;
        int was = tops[cell];
        tops[cell] = v;
        return was;
    }

    int tellAs(int slot, boolean withTops) {
        if (!slot(slot)) return UNKNOWN;
        int changed = 0;
        for (int x = 0; x < w; x++) {
            if (tell(true, x, tallest(slot, true, x)) != fronts[x]) changed++;
        }
        for (int y = 0; y < h; y++) {
            if (tell(false, y, tallest(slot, false, y)) != sides[y]) changed++;
        }
        for (int cell = 0; withTops && cell < w * h; cell++) {
            if (tellTop(cell, Math.min(1, slots[slot][cell])) != tops[cell]) changed++;
        }
        return changed;
    }

    int fits(int slot) {
        if (!slot(slot)) return UNKNOWN;
        for (int x = 0; x < w; x++) {
            if (fronts[x] != NONE && fronts[x] != tallest(slot, true, x)) return 0;
        }
        for (int y = 0; y < h; y++) {
            if (sides[y] != NONE && sides[y] != tallest(slot, false, y)) return 0;
        }
        for (int cell = 0; cell < w * h; cell++) {
            if (tops[cell] != NONE && tops[cell] != Math.min(1, slots[slot][cell])) return 0;
        }
        return 1;
    }

    private int[] wholeRange(int[] high) {
        int[] low = new int[w * h];
        for (int cell = 0; cell < w * h; cell++) {
            low[cell] = tops[cell] == 1 ? 1 : 0;
            high[cell] = tops[cell] == 0 ? 0 : 4;
        }
        return low;
    }

    /** How high a cell may be when the lines of a set stay below what they are told. */
    private int under(int cell, int set) {
        int x = cell % w;
        int y = cell / w;
        int front = fronts[x] == NONE ? 4 : fronts[x] - (set >> x & 1);
        int side = sides[y] == NONE ? 4 : sides[y] - (set >> w + y & 1);
        return Math.min(front, side);
    }

    private boolean allTold(int set) {
        for (int x = 0; x < w; x++) {
            if ((set >> x & 1) == 1 && fronts[x] == NONE) return false;
        }
        for (int y = 0; y < h; y++) {
            if ((set >> w + y & 1) == 1 && sides[y] == NONE) return false;
        }
        return true;
    }

    /** How many heaps with heights from low to high fit fronts and sides. */
    private long fitting(int[] low, int[] high) {
        long found = 0;
        for (int set = 0; set < 1 << w + h; set++) {
            if (!allTold(set)) continue;
            long product = 1;
            for (int cell = 0; cell < w * h && product != 0; cell++) {
                product *= Math.max(0, Math.min(high[cell], under(cell, set)) - low[cell] + 1);
            }
            found += Integer.bitCount(set) % 2 == 0 ? product : -product;
        }
        return found;
    }

    long heaps() {
        int[] high = new int[w * h];
        int[] low = wholeRange(high);
        return fitting(low, high);
    }

    private long fittingWith(int[] low, int[] high, int cell, int height) {
        if (height < low[cell] || height > high[cell]) return 0;
        int[] lowThere = low.clone();
        int[] highThere = high.clone();
        lowThere[cell] = height;
        highThere[cell] = height;
        return fitting(lowThere, highThere);
    }

    long with(int cell, int height) {
        if (!cell(cell)) return UNKNOWN;
        if (height < 0 || height > 4) return OUTSIDE;
        int[] high = new int[w * h];
        int[] low = wholeRange(high);
        return fittingWith(low, high, cell, height);
    }

    int span(int cell, boolean most) {
        if (!cell(cell)) return UNKNOWN;
        int answer = NONE;
        for (int height = 0; height <= 4; height++) {
            if (with(cell, height) > 0 && (most || answer == NONE)) answer = height;
        }
        return answer;
    }

    /** How many heaps of each number of cubes fit, from the same leaving out as above. */
    int count(boolean most) {
        int[] high = new int[w * h];
        int[] low = wholeRange(high);
        long[] byCubes = new long[101];
        for (int set = 0; set < 1 << w + h; set++) {
            if (!allTold(set)) continue;
            long[] ways = new long[101];
            ways[0] = 1;
            for (int cell = 0; cell < w * h; cell++) {
                long[] next = new long[101];
                for (int height = low[cell]; height <= Math.min(high[cell], under(cell, set)); height++) {
                    for (int n = 0; n + height <= Math.min(100, 4 * cell + 4); n++) next[n + height] += ways[n];
                }
                ways = next;
            }
            for (int n = 0; n <= 100; n++) byCubes[n] += Integer.bitCount(set) % 2 == 0 ? ways[n] : -ways[n];
        }
        int answer = NONE;
        for (int n = 0; n <= 100; n++) {
            if (byCubes[n] != 0 && (most || answer == NONE)) answer = n;
        }
        return answer;
    }

    int lay(int slot, long place) {
        if (!slot(slot)) return UNKNOWN;
        if (place < 0 || place >= heaps()) return OUTSIDE;
        int[] high = new int[w * h];
        int[] low = wholeRange(high);
        long left = place;
        for (int cell = 0; cell < w * h; cell++) {
            int height = 0;
            long ways = fittingWith(low, high, cell, height);
            while (left >= ways) {
                left -= ways;
                height++;
                ways = fittingWith(low, high, cell, height);
            }
            low[cell] = height;
            high[cell] = height;
        }
        slots[slot] = low;
        return cubes(slot);
    }

    long place(int slot) {
        if (!slot(slot)) return UNKNOWN;
        if (fits(slot) == 0) return STATE;
        int[] high = new int[w * h];
        int[] low = wholeRange(high);
        long place = 0;
        for (int cell = 0; cell < w * h; cell++) {
            for (int height = 0; height < slots[slot][cell]; height++) place += fittingWith(low, high, cell, height);
            low[cell] = slots[slot][cell];
            high[cell] = slots[slot][cell];
        }
        return place;
    }

    int tellSum(boolean column, int line, int v) {
        if (!line(column, line)) return UNKNOWN;
        if (v < 0 || v > 20) return OUTSIDE;
        int[] sums = column ? columnSums : rowSums;
        int was = sums[line];
        sums[line] = v;
        return was;
    }

    int sumsAs(int slot) {
        if (!slot(slot)) return UNKNOWN;
        for (int x = 0; x < w; x++) columnSums[x] = sum(slot, true, x);
        for (int y = 0; y < h; y++) rowSums[y] = sum(slot, false, y);
        return cubes(slot);
    }

    /** No set of rows needs more than the columns can give: then, and only then, there is a heap. */
    private boolean feasible(int[] low, int[] high) {
        if (Arrays.stream(columnSums).sum() != Arrays.stream(rowSums).sum()) return false;
        for (int cell = 0; cell < w * h; cell++) {
            if (low[cell] > high[cell]) return false;
        }
        for (int rows = 0; rows < 1 << h; rows++) {
            for (int columns = 0; columns < 1 << w; columns++) {
                int room = 0;
                for (int x = 0; x < w; x++) {
                    if ((columns >> x & 1) == 1) room += columnSums[x];
                }
                for (int y = 0; y < h; y++) {
                    if ((rows >> y & 1) == 1) room -= rowSums[y];
                }
                for (int cell = 0; cell < w * h; cell++) {
                    boolean inRows = (rows >> cell / w & 1) == 1;
                    boolean inColumns = (columns >> cell % w & 1) == 1;
                    if (inRows && !inColumns) room += high[cell];
                    if (!inRows && inColumns) room -= low[cell];
                }
                if (room < 0) return false;
            }
        }
        return true;
    }

    private boolean feasibleWith(int[] low, int[] high, int cell, int height) {
        if (height < low[cell] || height > high[cell]) return false;
        int[] lowThere = low.clone();
        int[] highThere = high.clone();
        lowThere[cell] = height;
        highThere[cell] = height;
        return feasible(lowThere, highThere);
    }

    int bySums() {
        int[] high = new int[w * h];
        int[] low = wholeRange(high);
        if (!feasible(low, high)) return 0;
        for (int cell = 0; cell < w * h; cell++) {
            if (spanSums(cell, false) != spanSums(cell, true)) return 2;
        }
        return 1;
    }

    int laySums(int slot) {
        if (!slot(slot)) return UNKNOWN;
        int[] high = new int[w * h];
        int[] low = wholeRange(high);
        if (!feasible(low, high)) return STATE;
        for (int cell = 0; cell < w * h; cell++) {
            int height = low[cell];
            while (!feasibleWith(low, high, cell, height)) height++;
            low[cell] = height;
            high[cell] = height;
        }
        slots[slot] = low;
        return cubes(slot);
    }

    int spanSums(int cell, boolean most) {
        if (!cell(cell)) return UNKNOWN;
        int[] high = new int[w * h];
        int[] low = wholeRange(high);
        int answer = NONE;
        for (int height = 0; height <= 4; height++) {
            if ((most || answer == NONE) && feasibleWith(low, high, cell, height)) answer = height;
        }
        return answer;
    }

    private int[] cubeCells(int slot) {
        int[] cells = new int[cubes(slot)];
        int n = 0;
        for (int cell = 0; cell < w * h; cell++) {
            for (int z = 0; z < slots[slot][cell]; z++) cells[n++] = cell;
        }
        return cells;
    }

    private int steps(int one, int other) {
        return Math.abs(one % w - other % w) + Math.abs(one / w - other / w);
    }

    /** Each cube is assigned to a cube's place in the other heap (the Hungarian method). */
    int carry(int from, int to) {
        if (!slot(from) || !slot(to)) return UNKNOWN;
        int[] here = cubeCells(from);
        int[] there = cubeCells(to);
        if (here.length != there.length) return NONE;
        int n = here.length;
        int[] u = new int[n + 1];
        int[] v = new int[n + 1];
        int[] match = new int[n + 1];
        int[] way = new int[n + 1];
        for (int i = 1; i <= n; i++) {
            match[0] = i;
            int j0 = 0;
            int[] least = new int[n + 1];
            Arrays.fill(least, Integer.MAX_VALUE);
            boolean[] used = new boolean[n + 1];
            do {
                used[j0] = true;
                int i0 = match[j0];
                int delta = Integer.MAX_VALUE;
                int j1 = 0;
                for (int j = 1; j <= n; j++) {
                    if (used[j]) continue;
                    int cost = steps(here[i0 - 1], there[j - 1]) - u[i0] - v[j];
                    if (cost < least[j]) {
                        least[j] = cost;
                        way[j] = j0;
                    }
                    if (least[j] < delta) {
                        delta = least[j];
                        j1 = j;
                    }
                }
                for (int j = 0; j <= n; j++) {
                    if (used[j]) {
                        u[match[j]] += delta;
                        v[j] -= delta;
                    } else {
                        least[j] -= delta;
                    }
                }
                j0 = j1;
            } while (match[j0] != 0);
            do {
                int j1 = way[j0];
                match[j0] = match[j1];
                j0 = j1;
            } while (j0 != 0);
        }
        int total = 0;
        for (int j = 1; j <= n; j++) total += steps(here[match[j] - 1], there[j - 1]);
        return total;
    }

    private boolean leavesGround(int t) {
        return w == h || t % 2 == 0;
    }

    /** A turn as mirror and single quarters, each on a ground whose sides change. */
    private int[] turned(int[] heap, int t) {
        int[] now = heap.clone();
        int wide = w;
        int deep = h;
        if (t >= 4) {
            for (int cell = 0; cell < heap.length; cell++) {
                now[cell / wide * wide + wide - 1 - cell % wide] = heap[cell];
            }
        }
        for (int quarter = 0; quarter < t % 4; quarter++) {
            int[] next = new int[now.length];
            for (int y = 0; y < deep; y++) {
                for (int x = 0; x < wide; x++) next[x * deep + deep - 1 - y] = now[y * wide + x];
            }
            int was = wide;
            wide = deep;
            deep = was;
            now = next;
        }
        return now;
    }

    int turn(int slot, int t) {
        if (!slot(slot)) return UNKNOWN;
        if (t < 0 || t > 7) return OUTSIDE;
        if (!leavesGround(t)) return STATE;
        return become(slot, turned(slots[slot], t));
    }

    int alike(int one, int other) {
        if (!slot(one) || !slot(other)) return UNKNOWN;
        for (int t = 0; t < 8; t++) {
            if (leavesGround(t) && Arrays.equals(turned(slots[one], t), slots[other])) return 1;
        }
        return 0;
    }

    int same(int slot) {
        if (!slot(slot)) return UNKNOWN;
        int same = 0;
        for (int t = 0; t < 8; t++) {
            if (leavesGround(t) && Arrays.equals(turned(slots[slot], t), slots[slot])) same++;
        }
        return same;
    }

    int least(int slot) {
        if (!slot(slot)) return UNKNOWN;
        int best = 0;
        for (int t = 7; t >= 0; t--) {
            if (!leavesGround(t)) continue;
            if (Arrays.compare(turned(slots[slot], t), turned(slots[slot], best)) <= 0) best = t;
        }
        // A turn that is only as good as a lesser one is not the answer.
        for (int t = best; t >= 0; t--) {
            if (leavesGround(t) && Arrays.equals(turned(slots[slot], t), turned(slots[slot], best))) best = t;
        }
        become(slot, turned(slots[slot], best));
        return best;
    }

    int about(int what) {
        int lines = 0;
        int cells = 0;
        for (int v : fronts) lines += v != NONE ? 1 : 0;
        for (int v : sides) lines += v != NONE ? 1 : 0;
        for (int v : tops) cells += v != NONE ? 1 : 0;
        int[] answers = {w, h, lines, cells, w * h};
        return what < 0 || what > 4 ? OUTSIDE : answers[what];
    }
}
