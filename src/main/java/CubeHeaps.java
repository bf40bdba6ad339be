import java.util.Arrays;

/** Heaps of cubes told by their sides; ../shared/DOC.md says what each call promises. */
public final class CubeHeaps {
    public static final int UNKNOWN = -1, OUTSIDE = -2, STATE = -3, NONE = -9;

    private static final int SLOTS = 4;
    private static final int HIGHEST = 4;
    private static final int LONGEST = 5;
    private static final int MOST_CELLS = LONGEST * LONGEST;
    private static final int MOST_CUBES = MOST_CELLS * HIGHEST;
    private static final int DIRECTIONS = 4;
    private static final int TURNS = 8;
    private static final int GREATEST_SUM = 20;

    private final Ground ground;
    private final int[][] slots;
    private final View view;
    private final Told told;
    private final Fitting fitting;
    private final Sums sums;
    private final Carrying carrying;
    private final Turning turning;

    public CubeHeaps() {
        ground = new Ground(4, 4);
        slots = new int[SLOTS][MOST_CELLS];
        view = new View(ground);
        told = new Told(ground, view);
        fitting = new Fitting(ground, told);
        sums = new Sums(ground, told);
        carrying = new Carrying(ground);
        turning = new Turning(ground);
    }

    // ---- heaps

    public int ground(int w, int h) {
        if (w < 1 || w > LONGEST || h < 1 || h > LONGEST) return OUTSIDE;
        ground.become(w, h);
        for (int slot = 0; slot < SLOTS; slot++) Arrays.fill(slots[slot], 0);
        told.forget();
        sums.forget();
        return ground.cells();
    }

    public int set(int slot, int cell, int height) {
        if (noSlot(slot) || noCell(cell)) return UNKNOWN;
        if (height < 0 || height > HIGHEST) return OUTSIDE;
        int was = slots[slot][cell];
        slots[slot][cell] = height;
        return was;
    }

    public int height(int slot, int cell) {
        if (noSlot(slot) || noCell(cell)) return UNKNOWN;
        return slots[slot][cell];
    }

    public int copy(int from, int to) {
        if (noSlot(from) || noSlot(to)) return UNKNOWN;
        return ground.overwrite(slots[from], slots[to]);
    }

    public int cubes(int slot) {
        if (noSlot(slot)) return UNKNOWN;
        return ground.total(slots[slot]);
    }

    // ---- looked at

    public int front(int slot, int column) {
        if (noSlot(slot) || noLine(true, column)) return UNKNOWN;
        return view.tallest(slots[slot], true, column);
    }

    public int side(int slot, int row) {
        if (noSlot(slot) || noLine(false, row)) return UNKNOWN;
        return view.tallest(slots[slot], false, row);
    }

    public int sum(int slot, boolean column, int line) {
        if (noSlot(slot) || noLine(column, line)) return UNKNOWN;
        return ground.lineTotal(slots[slot], column, line);
    }

    public int seen(int slot, int direction, int line) {
        if (noSlot(slot)) return UNKNOWN;
        if (direction < 0 || direction >= DIRECTIONS) return OUTSIDE;
        if (noLine(View.alongColumn(direction), line)) return UNKNOWN;
        return view.towersSeen(slots[slot], direction, line);
    }

    public int skin(int slot) {
        if (noSlot(slot)) return UNKNOWN;
        return view.openFaces(slots[slot]);
    }

    public int layer(int slot, int layer, boolean parts) {
        if (noSlot(slot)) return UNKNOWN;
        if (layer < 1 || layer > HIGHEST) return OUTSIDE;
        return parts ? view.layerParts(slots[slot], layer) : view.layerCells(slots[slot], layer);
    }

    public int water(int slot) {
        if (noSlot(slot)) return UNKNOWN;
        return view.waterKept(slots[slot]);
    }

    public int level(int slot, int cell) {
        if (noSlot(slot) || noCell(cell)) return UNKNOWN;
        return view.waterLevel(slots[slot], cell);
    }

    // ---- told by sides

    public int tell(boolean column, int line, int v) {
        if (noLine(column, line)) return UNKNOWN;
        if (v != NONE && (v < 0 || v > HIGHEST)) return OUTSIDE;
        return told.putLine(column, line, v);
    }

    public int tellTop(int cell, int v) {
        if (noCell(cell)) return UNKNOWN;
        if (v != NONE && v != 0 && v != 1) return OUTSIDE;
        return told.putTop(cell, v);
    }

    public int tellAs(int slot, boolean tops) {
        if (noSlot(slot)) return UNKNOWN;
        int changed = told.linesAs(slots[slot]);
        return tops ? changed + told.topsAs(slots[slot]) : changed;
    }

    public int fits(int slot) {
        if (noSlot(slot)) return UNKNOWN;
        return told.agrees(slots[slot]) ? 1 : 0;
    }

    public long heaps() {
        return fitted().all();
    }

    public long with(int cell, int height) {
        if (noCell(cell)) return UNKNOWN;
        if (height < 0 || height > HIGHEST) return OUTSIDE;
        return fitted().having(cell, height);
    }

    public int span(int cell, boolean most) {
        if (noCell(cell)) return UNKNOWN;
        return fitted().extreme(cell, most);
    }

    public int count(boolean most) {
        if (fitted().all() == 0) return NONE;
        return most ? fitting.mostCubes() : fitting.fewestCubes();
    }

    public int lay(int slot, long place) {
        if (noSlot(slot)) return UNKNOWN;
        if (place < 0 || place >= fitted().all()) return OUTSIDE;
        fitting.fill(slots[slot], place);
        return ground.total(slots[slot]);
    }

    public long place(int slot) {
        if (noSlot(slot)) return UNKNOWN;
        if (!told.agrees(slots[slot])) return STATE;
        return fitted().smaller(slots[slot]);
    }

    // ---- told by sums

    public int tellSum(boolean column, int line, int v) {
        if (noLine(column, line)) return UNKNOWN;
        if (v < 0 || v > GREATEST_SUM) return OUTSIDE;
        return sums.put(column, line, v);
    }

    public int sumsAs(int slot) {
        if (noSlot(slot)) return UNKNOWN;
        sums.takeFrom(slots[slot]);
        return ground.total(slots[slot]);
    }

    public int bySums() {
        return sums.noneOneMore();
    }

    public int laySums(int slot) {
        if (noSlot(slot)) return UNKNOWN;
        if (!sums.fillFirst(slots[slot])) return STATE;
        return ground.total(slots[slot]);
    }

    public int spanSums(int cell, boolean most) {
        if (noCell(cell)) return UNKNOWN;
        return sums.extreme(cell, most);
    }

    // ---- carried, turned

    public int carry(int from, int to) {
        if (noSlot(from) || noSlot(to)) return UNKNOWN;
        return carrying.leastSteps(slots[from], slots[to]);
    }

    public int turn(int slot, int t) {
        if (noSlot(slot)) return UNKNOWN;
        if (t < 0 || t >= TURNS) return OUTSIDE;
        if (!turning.keepsGround(t)) return STATE;
        return turning.apply(slots[slot], t);
    }

    public int alike(int one, int other) {
        if (noSlot(one) || noSlot(other)) return UNKNOWN;
        return turning.turnsBetween(slots[one], slots[other]) > 0 ? 1 : 0;
    }

    public int same(int slot) {
        if (noSlot(slot)) return UNKNOWN;
        return turning.turnsBetween(slots[slot], slots[slot]);
    }

    public int least(int slot) {
        if (noSlot(slot)) return UNKNOWN;
        int t = turning.toFirst(slots[slot]);
        turning.apply(slots[slot], t);
        return t;
    }

    public int about(int what) {
        switch (what) {
            case 0: return ground.lines(true);
            case 1: return ground.lines(false);
            case 2: return told.linesTold();
            case 3: return told.topsTold();
            case 4: return ground.cells();
            default: return OUTSIDE;
        }
    }

    private Fitting fitted() {
        fitting.refresh();
        return fitting;
    }

    private static boolean noSlot(int slot) {
        return slot < 0 || slot >= SLOTS;
    }

    private boolean noCell(int cell) {
        return cell < 0 || cell >= ground.cells();
    }

    private boolean noLine(boolean column, int line) {
        return line < 0 || line >= ground.lines(column);
    }

    /** The cells, their lines and their neighbours; a heap is an array of heights by cell. */
    private static final class Ground {
        /** Directions in such an order that the opposite one is direction ^ 2. */
        private static final int[] STEP_X = {-1, 0, 1, 0};
        private static final int[] STEP_Y = {0, -1, 0, 1};
        static final int BEYOND = -1;

        private final int[] xs = new int[MOST_CELLS];
        private final int[] ys = new int[MOST_CELLS];
        private final int[] neighbours = new int[MOST_CELLS * DIRECTIONS];
        private int wide;
        private int deep;

        Ground(int w, int h) {
            become(w, h);
        }

        void become(int w, int h) {
            wide = w;
            deep = h;
            for (int y = 0; y < h; y++) {
                for (int x = 0; x < w; x++) placeCell(x, y);
            }
        }

        private void placeCell(int x, int y) {
            int cell = at(x, y);
            xs[cell] = x;
            ys[cell] = y;
            for (int d = 0; d < DIRECTIONS; d++) {
                neighbours[cell * DIRECTIONS + d] = atOrBeyond(x + STEP_X[d], y + STEP_Y[d]);
            }
        }

        private int atOrBeyond(int x, int y) {
            return x < 0 || x >= wide || y < 0 || y >= deep ? BEYOND : at(x, y);
        }

        int at(int x, int y) {
            return y * wide + x;
        }

        int x(int cell) {
            return xs[cell];
        }

        int y(int cell) {
            return ys[cell];
        }

        int cells() {
            return wide * deep;
        }

        int beside(int cell, int direction) {
            return neighbours[cell * DIRECTIONS + direction];
        }

        /** How many columns (or rows) there are. */
        int lines(boolean column) {
            return column ? wide : deep;
        }

        /** How many cells a column (or a row) has. */
        int length(boolean column) {
            return column ? deep : wide;
        }

        int onLine(boolean column, int line, int i) {
            return column ? i * wide + line : line * wide + i;
        }

        int lineTotal(int[] heap, boolean column, int line) {
            int total = 0;
            for (int i = 0; i < length(column); i++) total += heap[onLine(column, line, i)];
            return total;
        }

        int total(int[] heap) {
            int total = 0;
            for (int cell = 0; cell < cells(); cell++) total += heap[cell];
            return total;
        }

        /** Makes a heap as another one and answers how many cells changed by that. */
        int overwrite(int[] from, int[] to) {
            int changed = 0;
            for (int cell = 0; cell < cells(); cell++) {
                if (to[cell] != from[cell]) changed++;
                to[cell] = from[cell];
            }
            return changed;
        }

        /** Below 0, 0, above 0: one heap comes before the other, is it, comes after it. */
        int compare(int[] one, int[] other) {
            for (int cell = 0; cell < cells(); cell++) {
                if (one[cell] != other[cell]) return one[cell] - other[cell];
            }
            return 0;
        }
    }

    /** What is seen of one heap. */
    private static final class View {
        private final Ground ground;
        private final int[] levels = new int[MOST_CELLS];
        /** The part that a cell is found to be of, counted from 1; 0: none yet. */
        private final int[] partOf = new int[MOST_CELLS];
        private final int[] waiting = new int[MOST_CELLS];

        View(Ground ground) {
            this.ground = ground;
        }

        static boolean alongColumn(int direction) {
            return direction == 1 || direction == 3;
        }

        int tallest(int[] heap, boolean column, int line) {
            int tallest = 0;
            for (int i = 0; i < ground.length(column); i++) {
                tallest = Math.max(tallest, heap[ground.onLine(column, line, i)]);
            }
            return tallest;
        }

        int towersSeen(int[] heap, int direction, int line) {
            boolean column = alongColumn(direction);
            int length = ground.length(column);
            int seen = 0;
            int tallest = 0;
            for (int i = 0; i < length; i++) {
                int far = direction < 2 ? i : length - 1 - i;
                int height = heap[ground.onLine(column, line, far)];
                if (height > tallest) {
                    seen++;
                    tallest = height;
                }
            }
            return seen;
        }

        int openFaces(int[] heap) {
            int faces = 0;
            for (int cell = 0; cell < ground.cells(); cell++) {
                if (heap[cell] > 0) faces++;
                for (int d = 0; d < DIRECTIONS; d++) {
                    faces += Math.max(0, heap[cell] - valueBeside(heap, cell, d));
                }
            }
            return faces;
        }

        private int valueBeside(int[] values, int cell, int direction) {
            int next = ground.beside(cell, direction);
            return next == Ground.BEYOND ? 0 : values[next];
        }

        int layerCells(int[] heap, int layer) {
            int found = 0;
            for (int cell = 0; cell < ground.cells(); cell++) {
                if (heap[cell] >= layer) found++;
            }
            return found;
        }

        int layerParts(int[] heap, int layer) {
            Arrays.fill(partOf, 0);
            int parts = 0;
            for (int cell = 0; cell < ground.cells(); cell++) {
                if (heap[cell] >= layer && partOf[cell] == 0) {
                    parts++;
                    markPart(heap, layer, cell, parts);
                }
            }
            return parts;
        }

        private void markPart(int[] heap, int layer, int start, int part) {
            waiting[0] = start;
            partOf[start] = part;
            int found = 1;
            for (int i = 0; i < found && i < MOST_CELLS; i++) {
                for (int d = 0; d < DIRECTIONS; d++) {
                    int next = ground.beside(waiting[i], d);
                    if (next == Ground.BEYOND || found >= MOST_CELLS) continue;
                    if (heap[next] >= layer && partOf[next] == 0) {
                        partOf[next] = part;
                        waiting[found++] = next;
                    }
                }
            }
        }

        int waterKept(int[] heap) {
            settle(heap);
            return ground.total(levels) - ground.total(heap);
        }

        int waterLevel(int[] heap, int cell) {
            settle(heap);
            return levels[cell];
        }

        /** Every round settles the cells one step further from the edge, so as many rounds as cells suffice. */
        private void settle(int[] heap) {
            Arrays.fill(levels, HIGHEST);
            boolean sinking = true;
            for (int round = 0; round < MOST_CELLS && sinking; round++) {
                sinking = false;
                for (int cell = 0; cell < ground.cells(); cell++) {
                    int level = Math.max(heap[cell], lowestBeside(cell));
                    if (level < levels[cell]) {
                        levels[cell] = level;
                        sinking = true;
                    }
                }
            }
        }

        private int lowestBeside(int cell) {
            int lowest = HIGHEST;
            for (int d = 0; d < DIRECTIONS; d++) {
                lowest = Math.min(lowest, valueBeside(levels, cell, d));
            }
            return lowest;
        }
    }

    /** A number for each column and each row. */
    private static final class Lines {
        private final int[] columns = new int[LONGEST];
        private final int[] rows = new int[LONGEST];

        void putAll(int v) {
            Arrays.fill(columns, v);
            Arrays.fill(rows, v);
        }

        int of(boolean column, int line) {
            return column ? columns[line] : rows[line];
        }

        int put(boolean column, int line, int v) {
            int[] numbers = column ? columns : rows;
            int was = numbers[line];
            numbers[line] = v;
            return was;
        }
    }

    /** Fronts, sides and tops that are told. */
    private static final class Told {
        private final Ground ground;
        private final View view;
        private final Lines tallest = new Lines();
        private final int[] tops = new int[MOST_CELLS];
        /** Counts what was told, so that what was worked out from it is known to be old. */
        private int version = 0;

        Told(Ground ground, View view) {
            this.ground = ground;
            this.view = view;
            forget();
        }

        void forget() {
            tallest.putAll(NONE);
            Arrays.fill(tops, NONE);
            version++;
        }

        int version() {
            return version;
        }

        int line(boolean column, int line) {
            return tallest.of(column, line);
        }

        int top(int cell) {
            return tops[cell];
        }

        int putLine(boolean column, int line, int v) {
            version++;
            return tallest.put(column, line, v);
        }

        int putTop(int cell, int v) {
            version++;
            int was = tops[cell];
            tops[cell] = v;
            return was;
        }

        int linesAs(int[] heap) {
            return putLinesAs(heap, true) + putLinesAs(heap, false);
        }

        private int putLinesAs(int[] heap, boolean column) {
            int changed = 0;
            for (int line = 0; line < ground.lines(column); line++) {
                int v = view.tallest(heap, column, line);
                if (putLine(column, line, v) != v) changed++;
            }
            return changed;
        }

        int topsAs(int[] heap) {
            int changed = 0;
            for (int cell = 0; cell < ground.cells(); cell++) {
                int v = topOf(heap, cell);
                if (putTop(cell, v) != v) changed++;
            }
            return changed;
        }

        private static int topOf(int[] heap, int cell) {
            return heap[cell] > 0 ? 1 : 0;
        }

        boolean agrees(int[] heap) {
            return linesAgree(heap, true) && linesAgree(heap, false) && topsAgree(heap);
        }

        private boolean linesAgree(int[] heap, boolean column) {
            for (int line = 0; line < ground.lines(column); line++) {
                int v = line(column, line);
                if (v != NONE && v != view.tallest(heap, column, line)) return false;
            }
            return true;
        }

        private boolean topsAgree(int[] heap) {
            for (int cell = 0; cell < ground.cells(); cell++) {
                if (tops[cell] != NONE && tops[cell] != topOf(heap, cell)) return false;
            }
            return true;
        }

        int linesTold() {
            return countTold(true) + countTold(false);
        }

        private int countTold(boolean column) {
            int found = 0;
            for (int line = 0; line < ground.lines(column); line++) {
                if (line(column, line) != NONE) found++;
            }
            return found;
        }

        int topsTold() {
            int found = 0;
            for (int cell = 0; cell < ground.cells(); cell++) {
                if (tops[cell] != NONE) found++;
            }
            return found;
        }
    }

    /**
     * All heaps that fit what is told. Cells are filled in order; between two cells only the MET lines
     * matter: those that have a cell as high as told (any cell will do where nothing is told). They are
     * the bits of a state: bit 0 the row that is being filled, bit x + 1 column x.
     */
    private static final class Fitting {
        private static final int ROW_MET = 1;
        private static final int MOST_STATES = 2 << LONGEST;
        private static final int ALL_HEIGHTS = (2 << HIGHEST) - 1;
        private static final int DEAD = -1;
        /** A height is of one of four kinds: bit 0, it meets its column; bit 1, it meets its row. */
        private static final int KINDS = 4;
        private static final int MEETS_COLUMN = 1;
        private static final int MEETS_ROW = 2;
        private static final int FAR = 1000;

        private final Ground ground;
        private final Told told;
        /** Heights, as bits, that a cell may have; that meet its column; that meet its row. */
        private final int[] allowed = new int[MOST_CELLS];
        private final int[] columnMeeting = new int[MOST_CELLS];
        private final int[] rowMeeting = new int[MOST_CELLS];
        /** By cell and state: in how many ways the cells before it come to that state. */
        private final long[][] before = new long[MOST_CELLS + 1][MOST_STATES];
        /** By cell and state that is come to: in how many ways it and the cells behind it are filled. */
        private final long[][] behind = new long[MOST_CELLS + 1][MOST_STATES];
        private int[] fewest = new int[MOST_STATES];
        private int[] fewestNext = new int[MOST_STATES];
        private int version = 0;

        Fitting(Ground ground, Told told) {
            this.ground = ground;
            this.told = told;
        }

        /** Works all out for what is told now; every other method tells of that. */
        void refresh() {
            if (version == told.version()) return;
            version = told.version();
            readTold();
            countBefore();
            countBehind();
        }

        long all() {
            return behind[0][0];
        }

        long having(int cell, int height) {
            if (!has(allowed[cell], height)) return 0;
            int met = linesMet(cell, kindOf(cell, height));
            boolean ends = endsRow(cell);
            int states = states();
            long found = 0;
            for (int state = 0; state < states; state++) {
                if (before[cell][state] == 0) continue;
                int next = after(state | met, ends);
                if (next != DEAD) found += before[cell][state] * behind[cell + 1][next];
            }
            return found;
        }

        int extreme(int cell, boolean most) {
            for (int i = 0; i <= HIGHEST; i++) {
                int height = most ? HIGHEST - i : i;
                if (having(cell, height) > 0) return height;
            }
            return NONE;
        }

        /** Raised to the greatest height allowed in each cell, a heap that fits still fits. */
        int mostCubes() {
            int cubes = 0;
            for (int cell = 0; cell < ground.cells(); cell++) cubes += highestOf(allowed[cell]);
            return cubes;
        }

        int fewestCubes() {
            Arrays.fill(fewest, FAR);
            fewest[0] = 0;
            for (int cell = 0; cell < ground.cells(); cell++) {
                Arrays.fill(fewestNext, FAR);
                for (int kind = 0; kind < KINDS; kind++) addFewest(cell, kind);
                int[] done = fewest;
                fewest = fewestNext;
                fewestNext = done;
            }
            return fewest[allMet()];
        }

        private void addFewest(int cell, int kind) {
            int heights = heightsOf(cell, kind);
            if (heights == 0) return;
            int lowest = Integer.numberOfTrailingZeros(heights);
            int met = linesMet(cell, kind);
            boolean ends = endsRow(cell);
            int states = states();
            for (int state = 0; state < states; state++) {
                if (fewest[state] == FAR) continue;
                int next = after(state | met, ends);
                if (next != DEAD) fewestNext[next] = Math.min(fewestNext[next], fewest[state] + lowest);
            }
        }

        /** Fills a heap as the one at a place that there is, so that no state on the way is DEAD. */
        void fill(int[] heap, long place) {
            int state = 0;
            long left = place;
            for (int cell = 0; cell < ground.cells(); cell++) {
                int height = 0;
                long ways = waysFrom(cell, state, height);
                while (left >= ways && height < HIGHEST) {
                    left -= ways;
                    height++;
                    ways = waysFrom(cell, state, height);
                }
                heap[cell] = height;
                state = Math.max(0, afterHeight(cell, state, height));
            }
        }

        /** How many heaps that fit come before one that fits, so that no state on the way is DEAD. */
        long smaller(int[] heap) {
            int state = 0;
            long found = 0;
            for (int cell = 0; cell < ground.cells(); cell++) {
                for (int height = 0; height < heap[cell]; height++) found += waysFrom(cell, state, height);
                state = Math.max(0, afterHeight(cell, state, heap[cell]));
            }
            return found;
        }

        private long waysFrom(int cell, int state, int height) {
            if (!has(allowed[cell], height)) return 0;
            int next = afterHeight(cell, state, height);
            return next == DEAD ? 0 : behind[cell + 1][next];
        }

        private void readTold() {
            for (int cell = 0; cell < ground.cells(); cell++) {
                int column = told.line(true, ground.x(cell));
                int row = told.line(false, ground.y(cell));
                columnMeeting[cell] = meeting(column);
                rowMeeting[cell] = meeting(row);
                allowed[cell] = upTo(column) & upTo(row) & underTop(told.top(cell));
            }
        }

        private void countBefore() {
            Arrays.fill(before[0], 0);
            before[0][0] = 1;
            for (int cell = 0; cell < ground.cells(); cell++) {
                Arrays.fill(before[cell + 1], 0);
                for (int kind = 0; kind < KINDS; kind++) addBefore(cell, kind);
            }
        }

        private void addBefore(int cell, int kind) {
            int ways = Integer.bitCount(heightsOf(cell, kind));
            if (ways == 0) return;
            int met = linesMet(cell, kind);
            boolean ends = endsRow(cell);
            int states = states();
            long[] here = before[cell];
            long[] there = before[cell + 1];
            for (int state = 0; state < states; state++) {
                if (here[state] == 0) continue;
                int next = after(state | met, ends);
                if (next != DEAD) there[next] += ways * here[state];
            }
        }

        private void countBehind() {
            int cells = ground.cells();
            Arrays.fill(behind[cells], 0);
            behind[cells][allMet()] = 1;
            for (int cell = cells - 1; cell >= 0; cell--) {
                Arrays.fill(behind[cell], 0);
                for (int kind = 0; kind < KINDS; kind++) addBehind(cell, kind);
            }
        }

        private void addBehind(int cell, int kind) {
            int ways = Integer.bitCount(heightsOf(cell, kind));
            if (ways == 0) return;
            int met = linesMet(cell, kind);
            boolean ends = endsRow(cell);
            int states = states();
            long[] here = behind[cell];
            long[] there = behind[cell + 1];
            for (int state = 0; state < states; state++) {
                if (before[cell][state] == 0) continue;
                int next = after(state | met, ends);
                if (next != DEAD) here[state] += ways * there[next];
            }
        }

        private int states() {
            return 2 << ground.lines(true);
        }

        /** The state behind the last cell: all columns, and no row is being filled. */
        private int allMet() {
            return states() - 1 - ROW_MET;
        }

        /** The state behind a cell, from all that is met with it; DEAD, if its row ends and is not met. */
        private static int after(int met, boolean endsRow) {
            if (!endsRow) return met;
            return (met & ROW_MET) == 0 ? DEAD : met - ROW_MET;
        }

        private int afterHeight(int cell, int state, int height) {
            return after(state | linesMet(cell, kindOf(cell, height)), endsRow(cell));
        }

        private int linesMet(int cell, int kind) {
            return ((kind & MEETS_COLUMN) != 0 ? 2 << ground.x(cell) : 0)
                | ((kind & MEETS_ROW) != 0 ? ROW_MET : 0);
        }

        private boolean endsRow(int cell) {
            return ground.x(cell) == ground.lines(true) - 1;
        }

        private int kindOf(int cell, int height) {
            return (has(columnMeeting[cell], height) ? MEETS_COLUMN : 0)
                | (has(rowMeeting[cell], height) ? MEETS_ROW : 0);
        }

        /** The heights, as bits, that a cell may have and that are of a kind. */
        private int heightsOf(int cell, int kind) {
            return allowed[cell]
                & ((kind & MEETS_COLUMN) != 0 ? columnMeeting[cell] : ~columnMeeting[cell])
                & ((kind & MEETS_ROW) != 0 ? rowMeeting[cell] : ~rowMeeting[cell]);
        }

        private static boolean has(int heights, int height) {
            return (heights >> height & 1) != 0;
        }

        private static int meeting(int v) {
            return v == NONE ? ALL_HEIGHTS : 1 << v;
        }

        private static int upTo(int v) {
            return v == NONE ? ALL_HEIGHTS : (2 << v) - 1;
        }

        private static int underTop(int v) {
            if (v == NONE) return ALL_HEIGHTS;
            return v == 0 ? 1 : ALL_HEIGHTS - 1;
        }

        private static int highestOf(int heights) {
            return heights == 0 ? 0 : 31 - Integer.numberOfLeadingZeros(heights);
        }
    }

    /**
     * Heaps told by sums, as cubes that flow from rows to columns: a cell of a row and a column lets
     * from low to high cubes through. Rows and columns are nodes; a way from a row to a column raises
     * and lessens cells by turns, and so moves one more cube without a change to the lines between.
     */
    private static final class Sums {
        private static final int NODES = 2 * LONGEST;
        private static final int FIRST_COLUMN = LONGEST;
        private static final int NOWHERE = -1;

        private final Ground ground;
        private final Told told;
        private final Lines wanted = new Lines();
        private final int[] made = new int[MOST_CELLS];
        private final int[] low = new int[MOST_CELLS];
        private final int[] high = new int[MOST_CELLS];
        /** How many ways may still end in each node. */
        private final int[] open = new int[NODES];
        /** How the search came to each node: from which one, over which cell. */
        private final int[] cameFrom = new int[NODES];
        private final int[] cameOver = new int[NODES];
        private final int[] waiting = new int[NODES];

        Sums(Ground ground, Told told) {
            this.ground = ground;
            this.told = told;
        }

        void forget() {
            wanted.putAll(0);
        }

        int put(boolean column, int line, int v) {
            return wanted.put(column, line, v);
        }

        void takeFrom(int[] heap) {
            takeLines(heap, true);
            takeLines(heap, false);
        }

        private void takeLines(int[] heap, boolean column) {
            for (int line = 0; line < ground.lines(column); line++) {
                put(column, line, ground.lineTotal(heap, column, line));
            }
        }

        int noneOneMore() {
            if (!makeOne()) return 0;
            for (int cell = 0; cell < ground.cells(); cell++) {
                if (shift(cell, -1)) return 2;
            }
            return 1;
        }

        boolean fillFirst(int[] heap) {
            if (!makeOne()) return false;
            for (int cell = 0; cell < ground.cells(); cell++) {
                shiftFar(cell, -1);
                low[cell] = made[cell];
                high[cell] = made[cell];
            }
            ground.overwrite(made, heap);
            return true;
        }

        int extreme(int cell, boolean most) {
            if (!makeOne()) return NONE;
            shiftFar(cell, most ? 1 : -1);
            return made[cell];
        }

        /** Makes some heap for the sums, if there is one. */
        private boolean makeOne() {
            startLow();
            if (!openColumns()) return false;
            for (int row = 0; row < ground.lines(false); row++) {
                for (int left = missing(false, row); left > 0; left--) {
                    if (!push(row)) return false;
                }
            }
            return true;
        }

        private void startLow() {
            for (int cell = 0; cell < ground.cells(); cell++) {
                low[cell] = told.top(cell) == 1 ? 1 : 0;
                high[cell] = told.top(cell) == 0 ? 0 : HIGHEST;
                made[cell] = low[cell];
            }
        }

        private int missing(boolean column, int line) {
            return wanted.of(column, line) - ground.lineTotal(made, column, line);
        }

        /** False: some line has too many cubes from the start, or rows and columns differ together. */
        private boolean openColumns() {
            Arrays.fill(open, 0);
            int difference = 0;
            for (int row = 0; row < ground.lines(false); row++) {
                if (missing(false, row) < 0) return false;
                difference += missing(false, row);
            }
            for (int column = 0; column < ground.lines(true); column++) {
                if (missing(true, column) < 0) return false;
                open[FIRST_COLUMN + column] = missing(true, column);
                difference -= missing(true, column);
            }
            return difference == 0;
        }

        /** Changes a cell step by step, as far as other cells can make up for it. */
        private void shiftFar(int cell, int step) {
            boolean moved = true;
            for (int i = 0; i < HIGHEST && moved; i++) moved = shift(cell, step);
        }

        private boolean shift(int cell, int step) {
            int value = made[cell] + step;
            int lowest = low[cell];
            int greatest = high[cell];
            if (value < lowest || value > greatest) return false;
            made[cell] = value;
            low[cell] = value;
            high[cell] = value;
            int row = ground.y(cell);
            int column = FIRST_COLUMN + ground.x(cell);
            Arrays.fill(open, 0);
            open[step < 0 ? column : row] = 1;
            boolean moved = push(step < 0 ? row : column);
            if (!moved) made[cell] = value - step;
            low[cell] = lowest;
            high[cell] = greatest;
            return moved;
        }

        /** Moves one cube along a way from a node to one that is open. */
        private boolean push(int start) {
            int end = findOpen(start);
            if (end == NOWHERE) return false;
            open[end]--;
            int node = end;
            for (int i = 0; i < NODES && node != start && node != NOWHERE; i++) {
                made[cameOver[node]] += isColumn(node) ? 1 : -1;
                node = cameFrom[node];
            }
            return true;
        }

        private int findOpen(int start) {
            Arrays.fill(cameFrom, NOWHERE);
            cameFrom[start] = start;
            waiting[0] = start;
            int found = 1;
            for (int i = 0; i < found && i < NODES; i++) {
                int node = waiting[i];
                boolean column = isColumn(node);
                int line = column ? node - FIRST_COLUMN : node;
                int first = column ? 0 : FIRST_COLUMN;
                for (int far = 0; far < ground.length(column); far++) {
                    int next = first + far;
                    int cell = ground.onLine(column, line, far);
                    if (cameFrom[next] != NOWHERE || found >= NODES || !passes(column, cell)) continue;
                    cameFrom[next] = node;
                    cameOver[next] = cell;
                    if (open[next] > 0) return next;
                    waiting[found++] = next;
                }
            }
            return NOWHERE;
        }

        /** From a column a way lessens a cell, from a row it raises one. */
        private boolean passes(boolean fromColumn, int cell) {
            return fromColumn ? made[cell] > low[cell] : made[cell] < high[cell];
        }

        private static boolean isColumn(int node) {
            return node >= FIRST_COLUMN;
        }
    }

    /**
     * The least carrying, as a flow of least cost between neighbours: cubes go on shortest ways from
     * cells with too many to cells with too few, and to go against cubes that are carried takes back
     * a step.
     */
    private static final class Carrying {
        private static final int FAR = 1000;
        private static final int NOWHERE = -1;

        private final Ground ground;
        private final int[] surplus = new int[MOST_CELLS];
        private final int[] carried = new int[MOST_CELLS * DIRECTIONS];
        private final int[] steps = new int[MOST_CELLS];
        /** How a shortest way came to each cell: from which one (from itself: it starts there), in which direction. */
        private final int[] cameFrom = new int[MOST_CELLS];
        private final int[] cameBy = new int[MOST_CELLS];

        Carrying(Ground ground) {
            this.ground = ground;
        }

        int leastSteps(int[] from, int[] to) {
            if (ground.total(from) != ground.total(to)) return NONE;
            Arrays.fill(carried, 0);
            int left = 0;
            for (int cell = 0; cell < ground.cells(); cell++) {
                surplus[cell] = from[cell] - to[cell];
                left += Math.max(0, surplus[cell]);
            }
            for (int i = 0; i < MOST_CUBES && left > 0; i++) left -= carryNearest();
            int total = 0;
            for (int i = 0; i < carried.length; i++) total += carried[i];
            return total;
        }

        private int carryNearest() {
            findWays();
            int end = nearestWanting();
            if (end == NOWHERE) return 0;
            int amount = amountTo(end);
            surplus[end] += amount;
            surplus[carryAlong(end, amount)] -= amount;
            return amount;
        }

        private void findWays() {
            for (int cell = 0; cell < ground.cells(); cell++) {
                steps[cell] = surplus[cell] > 0 ? 0 : FAR;
                cameFrom[cell] = cell;
            }
            boolean nearer = true;
            for (int round = 0; round < MOST_CELLS && nearer; round++) {
                nearer = false;
                for (int cell = 0; cell < ground.cells(); cell++) {
                    if (steps[cell] < FAR && stepOn(cell)) nearer = true;
                }
            }
        }

        private boolean stepOn(int cell) {
            boolean nearer = false;
            for (int d = 0; d < DIRECTIONS; d++) {
                int next = ground.beside(cell, d);
                if (next == Ground.BEYOND) continue;
                int there = steps[cell] + (carriedBack(next, d) > 0 ? -1 : 1);
                if (there < steps[next]) {
                    steps[next] = there;
                    cameFrom[next] = cell;
                    cameBy[next] = d;
                    nearer = true;
                }
            }
            return nearer;
        }

        /** How many cubes are carried from a cell against a direction. */
        private int carriedBack(int cell, int direction) {
            return carried[cell * DIRECTIONS + (direction ^ 2)];
        }

        private int nearestWanting() {
            int nearest = NOWHERE;
            for (int cell = 0; cell < ground.cells(); cell++) {
                if (surplus[cell] >= 0 || steps[cell] >= FAR) continue;
                if (nearest == NOWHERE || steps[cell] < steps[nearest]) nearest = cell;
            }
            return nearest;
        }

        private int amountTo(int end) {
            int amount = -surplus[end];
            int cell = end;
            for (int i = 0; i < MOST_CELLS && cameFrom[cell] != cell; i++) {
                int back = carriedBack(cell, cameBy[cell]);
                if (back > 0) amount = Math.min(amount, back);
                cell = cameFrom[cell];
            }
            return Math.min(amount, surplus[cell]);
        }

        /** Carries cubes along the way that ends in a cell, and answers where it starts. */
        private int carryAlong(int end, int amount) {
            int cell = end;
            for (int i = 0; i < MOST_CELLS && cameFrom[cell] != cell; i++) {
                int direction = cameBy[cell];
                int previous = cameFrom[cell];
                if (carriedBack(cell, direction) > 0) carried[cell * DIRECTIONS + (direction ^ 2)] -= amount;
                else carried[previous * DIRECTIONS + direction] += amount;
                cell = previous;
            }
            return cell;
        }
    }

    /** Heaps turned and mirrored. */
    private static final class Turning {
        private final Ground ground;
        private final int[] turned = new int[MOST_CELLS];
        private final int[] first = new int[MOST_CELLS];

        Turning(Ground ground) {
            this.ground = ground;
        }

        boolean keepsGround(int t) {
            return t % 2 == 0 || ground.lines(true) == ground.lines(false);
        }

        /** Turns a heap and answers how many cells changed by that. */
        int apply(int[] heap, int t) {
            turnTo(heap, t, turned);
            return ground.overwrite(turned, heap);
        }

        /** How many turns make one heap the other. */
        int turnsBetween(int[] one, int[] other) {
            int found = 0;
            for (int t = 0; t < TURNS; t++) {
                if (!keepsGround(t)) continue;
                turnTo(one, t, turned);
                if (ground.compare(turned, other) == 0) found++;
            }
            return found;
        }

        /** The least turn that makes a heap the first in order of all that it becomes. */
        int toFirst(int[] heap) {
            int best = 0;
            ground.overwrite(heap, first);
            for (int t = 1; t < TURNS; t++) {
                if (!keepsGround(t)) continue;
                turnTo(heap, t, turned);
                if (ground.compare(turned, first) < 0) {
                    best = t;
                    ground.overwrite(turned, first);
                }
            }
            return best;
        }

        private void turnTo(int[] heap, int t, int[] target) {
            for (int cell = 0; cell < ground.cells(); cell++) target[image(cell, t)] = heap[cell];
        }

        private int image(int cell, int t) {
            int lastX = ground.lines(true) - 1;
            int lastY = ground.lines(false) - 1;
            int x = t < 4 ? ground.x(cell) : lastX - ground.x(cell);
            int y = ground.y(cell);
            switch (t % 4) {
                case 1: return ground.at(lastY - y, x);
                case 2: return ground.at(lastX - x, lastY - y);
                case 3: return ground.at(y, lastX - x);
                default: return ground.at(x, y);
            }
        }
    }
}
