/** The ground, its cells and slots, and promises 1 to 6, sentence by sentence, at their bounds. */
public final class EdgeHeapsTest {
    private static final int NONE = CubeHeaps.NONE, UNKNOWN = CubeHeaps.UNKNOWN, OUTSIDE = CubeHeaps.OUTSIDE;
    private static final int MAX = Integer.MAX_VALUE, MIN = Integer.MIN_VALUE;
    private static final Check check = new Check("EdgeHeapsTest");

    public static void main(String[] args) {
        groundIsOneToFiveEach();
        cellIsYTimesWPlusX();
        linesAreColumnsAndRows();
        heightsAreZeroToFour();
        slotsAreZeroToThree();
        newObjectHasFourByFour();
        newObjectHasNothing();
        groundEmptiesSlots();
        groundForgetsWhatIsTold();
        groundAnswersCells();
        groundRefuses();
        setAnswersWhatItWas();
        setRefusesUnknownFirst();
        setRefusesOutside();
        heightIsAsItIs();
        heightRefuses();
        copyAnswersCellsOtherwise();
        copyRefuses();
        cubesOfEmptyAndFull();
        cubesRefuses();
        check.end();
    }

    private static void groundIsOneToFiveEach() {
        check.sentence("THE GROUND has W by H CELLS (1 to 5 each)");
        for (int w = -1; w <= 7; w++) {
            for (int h = -1; h <= 7; h++) {
                boolean right = w >= 1 && w <= 5 && h >= 1 && h <= 5;
                CubeHeaps x = new CubeHeaps();
                check.due("ground(" + w + ", " + h + ")", x.ground(w, h), right ? w * h : OUTSIDE);
                check.due("about(0)", x.about(0), right ? w : 4);
                check.due("about(1)", x.about(1), right ? h : 4);
            }
        }
    }

    private static void cellIsYTimesWPlusX() {
        check.sentence("CELL y W + x; COLUMNS: all CELLS of one x");
        for (int w = 1; w <= 5; w++) {
            for (int h = 1; h <= 5; h++) {
                CubeHeaps x = Check.on(w, h);
                for (int cell = 0; cell < w * h; cell++) oneCubeIsInItsLines(x, w, h, cell);
            }
        }
    }

    private static void oneCubeIsInItsLines(CubeHeaps x, int w, int h, int cell) {
        x.set(0, cell, 1);
        for (int column = 0; column < w; column++) {
            check.due("column " + column + " with a cube in " + cell, x.sum(0, true, column), cell % w == column ? 1 : 0);
        }
        for (int row = 0; row < h; row++) {
            check.due("row " + row + " with a cube in " + cell, x.sum(0, false, row), cell / w == row ? 1 : 0);
        }
        x.set(0, cell, 0);
    }

    private static void linesAreColumnsAndRows() {
        check.sentence("COLUMNS are 0 to W - 1, ROWS 0 to H - 1");
        int[][] grounds = {{1, 1}, {1, 5}, {5, 1}, {5, 2}, {2, 5}, {5, 5}};
        for (int[] size : grounds) {
            CubeHeaps x = Check.on(size[0], size[1]);
            for (int line = -1; line <= 6; line++) {
                int front = line >= 0 && line < size[0] ? 0 : UNKNOWN;
                int side = line >= 0 && line < size[1] ? 0 : UNKNOWN;
                String on = " on " + size[0] + " by " + size[1];
                check.due("front(0, " + line + ")" + on, x.front(0, line), front);
                check.due("side(0, " + line + ")" + on, x.side(0, line), side);
            }
        }
    }

    private static void heightsAreZeroToFour() {
        check.sentence("A HEAP has a HEIGHT 0 to 4 in each CELL");
        CubeHeaps x = new CubeHeaps();
        int was = 0;
        for (int height = 0; height <= 4; height++) {
            check.due("set(0, 3, " + height + ")", x.set(0, 3, height), was);
            check.due("height(0, 3)", x.height(0, 3), height);
            was = height;
        }
        for (int height : new int[] {-1, 5, 6, NONE, MAX, MIN}) {
            check.due("set(0, 3, " + height + ")", x.set(0, 3, height), OUTSIDE);
            check.due("height(0, 3)", x.height(0, 3), 4);
        }
    }

    private static void slotsAreZeroToThree() {
        check.sentence("SLOTS 0 to 3 hold one HEAP each (all 0 at first)");
        CubeHeaps x = Check.on(5, 5);
        for (int slot = 0; slot < 4; slot++) check.due("cubes(" + slot + ") at first", x.cubes(slot), 0);
        for (int slot = 0; slot < 4; slot++) x.set(slot, 24 - slot, slot + 1);
        for (int slot = 0; slot < 4; slot++) {
            check.due("cubes(" + slot + ")", x.cubes(slot), slot + 1);
            check.due("height(" + slot + ")", x.height(slot, 24 - slot), slot + 1);
        }
        for (int slot : new int[] {-1, 4, 5, MAX, MIN}) check.due("cubes(" + slot + ")", x.cubes(slot), UNKNOWN);
    }

    private static void newObjectHasFourByFour() {
        check.sentence("Promise 1: 4 by 4 CELLS");
        CubeHeaps x = new CubeHeaps();
        check.due("about(0)", x.about(0), 4);
        check.due("about(1)", x.about(1), 4);
        check.due("about(4)", x.about(4), 16);
        check.due("height(0, 15)", x.height(0, 15), 0);
        check.due("height(0, 16)", x.height(0, 16), UNKNOWN);
        check.due("front(0, 3)", x.front(0, 3), 0);
        check.due("front(0, 4)", x.front(0, 4), UNKNOWN);
        check.due("side(0, 3)", x.side(0, 3), 0);
        check.due("side(0, 4)", x.side(0, 4), UNKNOWN);
    }

    private static void newObjectHasNothing() {
        check.sentence("Promise 1: nothing is told");
        CubeHeaps x = new CubeHeaps();
        check.due("about(2)", x.about(2), 0);
        check.due("about(3)", x.about(3), 0);
        check.due("heaps()", x.heaps(), 152587890625L);
        check.due("bySums()", x.bySums(), 1);
        nothingIsHeld(x, 4, 4);
        check.unchanged("ground(4, 4) on a new object", Check.on(4, 4), new CubeHeaps());
    }

    private static void nothingIsHeld(CubeHeaps x, int w, int h) {
        for (int slot = 0; slot < 4; slot++) {
            for (int cell = 0; cell < w * h; cell++) check.due("height", x.height(slot, cell), 0);
        }
        for (int column = 0; column < w; column++) {
            check.due("FRONT told of " + column, x.tell(true, column, NONE), NONE);
            check.due("SUM of column " + column, x.tellSum(true, column, 0), 0);
        }
        for (int row = 0; row < h; row++) {
            check.due("SIDE told of " + row, x.tell(false, row, NONE), NONE);
            check.due("SUM of row " + row, x.tellSum(false, row, 0), 0);
        }
        for (int cell = 0; cell < w * h; cell++) check.due("TOP told of " + cell, x.tellTop(cell, NONE), NONE);
    }

    /** All slots full, all lines and tops told, all sums as great as can be. */
    private static CubeHeaps fullOfAll(int w, int h) {
        CubeHeaps x = Check.full(w, h);
        for (int slot = 1; slot < 4; slot++) x.copy(0, slot);
        x.tellAs(0, true);
        for (int column = 0; column < w; column++) x.tellSum(true, column, 20);
        for (int row = 0; row < h; row++) x.tellSum(false, row, 20);
        x.heaps();
        return x;
    }

    private static void groundEmptiesSlots() {
        check.sentence("Promise 2: all SLOTS 0");
        for (int w = 1; w <= 5; w++) {
            CubeHeaps x = fullOfAll(5, 5);
            x.ground(w, 6 - w);
            for (int slot = 0; slot < 4; slot++) check.due("cubes(" + slot + ")", x.cubes(slot), 0);
            x.ground(5, 5);
            for (int slot = 0; slot < 4; slot++) check.due("cubes(" + slot + ") on 5 by 5", x.cubes(slot), 0);
        }
        CubeHeaps same = fullOfAll(5, 5);
        same.ground(5, 5);
        for (int slot = 0; slot < 4; slot++) check.due("cubes(" + slot + "), the same W and H", same.cubes(slot), 0);
    }

    private static void groundForgetsWhatIsTold() {
        check.sentence("Promise 2: nothing TOLD, SUMS 0");
        int[][] grounds = {{1, 1}, {1, 5}, {5, 1}, {5, 5}, {3, 4}};
        for (int[] size : grounds) {
            CubeHeaps x = fullOfAll(5, 5);
            check.due("ground", x.ground(size[0], size[1]), size[0] * size[1]);
            check.due("about(2)", x.about(2), 0);
            check.due("about(3)", x.about(3), 0);
            check.due("heaps()", x.heaps(), Check.power(5, size[0] * size[1]));
            check.due("bySums()", x.bySums(), 1);
            nothingIsHeld(x, size[0], size[1]);
        }
        CubeHeaps again = fullOfAll(5, 5);
        again.ground(1, 1);
        again.ground(5, 5);
        nothingIsHeld(again, 5, 5);
    }

    private static void groundAnswersCells() {
        check.sentence("Promise 2: how many CELLS");
        for (int w = 1; w <= 5; w++) {
            for (int h = 1; h <= 5; h++) {
                CubeHeaps x = new CubeHeaps();
                int cells = x.ground(w, h);
                check.due("ground(" + w + ", " + h + ")", cells, w * h);
                check.due("about(4)", x.about(4), cells);
                check.due("the last cell", x.height(3, w * h - 1), 0);
                check.due("the cell behind it", x.height(3, w * h), UNKNOWN);
            }
        }
    }

    private static void groundRefuses() {
        check.sentence("Promise 2: OUTSIDE; what is refused changes nothing");
        int[][] wrong = {{0, 1}, {1, 0}, {0, 0}, {6, 5}, {5, 6}, {6, 1}, {1, 6}, {-1, 5}, {5, -1}, {-1, -1},
            {-4, -4}, {MAX, 1}, {1, MAX}, {MIN, 5}, {5, MIN}, {65536, 65536}, {1 << 30, 4}, {4, 1 << 30}};
        for (int[] size : wrong) {
            check.leaves("ground(" + size[0] + ", " + size[1] + ")", () -> Check.busy(4, 3),
                x -> x.ground(size[0], size[1]), OUTSIDE);
        }
        check.leaves("ground(6, 6) on the largest", () -> Check.busy(5, 5), x -> x.ground(6, 6), OUTSIDE);
        check.leaves("ground(0, 0) on the smallest", () -> Check.busy(1, 1), x -> x.ground(0, 0), OUTSIDE);
    }

    private static void setAnswersWhatItWas() {
        check.sentence("Promise 3: HEIGHT of a CELL in a SLOT: what it was");
        CubeHeaps x = Check.on(5, 5);
        check.due("set the first cell", x.set(0, 0, 4), 0);
        check.due("set it again", x.set(0, 0, 4), 4);
        check.due("set it to 0", x.set(0, 0, 0), 4);
        check.due("set it to 0 again", x.set(0, 0, 0), 0);
        check.due("set the last cell of the last slot", x.set(3, 24, 3), 0);
        check.due("set it to 1", x.set(3, 24, 1), 3);
        check.due("that slot has this cube alone", x.cubes(3), 1);
        for (int slot = 0; slot < 3; slot++) check.due("other slots have none", x.cubes(slot), 0);
        CubeHeaps one = Check.on(1, 1);
        check.due("set(0, 0, 4) on one cell", one.set(0, 0, 4), 0);
        check.due("set(0, 0, 1) on one cell", one.set(0, 0, 1), 4);
        CubeHeaps told = Check.with(2, 1, "12");
        told.tellAs(0, true);
        check.due("set is free of what is told", told.set(0, 0, 4), 1);
    }

    private static void setRefusesUnknownFirst() {
        check.sentence("Promise 3: UNKNOWN: slot, cell; ahead of OUTSIDE");
        int[][] sizes = {{1, 1}, {5, 5}, {4, 4}, {5, 1}, {1, 5}};
        for (int[] size : sizes) {
            int cells = size[0] * size[1];
            int[][] wrong = {{-1, 0, 1}, {4, 0, 1}, {MAX, 0, 1}, {MIN, 0, 1}, {0, -1, 1}, {0, cells, 1}, {3, 25, 1},
                {0, MAX, 1}, {3, MIN, 1}, {4, cells, 5}, {4, 0, 5}, {0, cells, 5}, {0, -1, -1}, {-1, -1, -1}};
            for (int[] a : wrong) {
                check.leaves("set(" + a[0] + ", " + a[1] + ", " + a[2] + ") on " + size[0] + " by " + size[1],
                    () -> Check.busy(size[0], size[1]), x -> x.set(a[0], a[1], a[2]), UNKNOWN);
            }
        }
    }

    private static void setRefusesOutside() {
        check.sentence("Promise 3: OUTSIDE; what is refused changes nothing");
        for (int height : new int[] {-1, 5, NONE, MAX, MIN}) {
            check.leaves("set(0, 0, " + height + ")", () -> Check.busy(3, 2), x -> x.set(0, 0, height), OUTSIDE);
            check.leaves("set(3, 5, " + height + ")", () -> Check.busy(3, 2), x -> x.set(3, 5, height), OUTSIDE);
        }
    }

    private static void heightIsAsItIs() {
        check.sentence("Promise 4: HEIGHT as it is");
        CubeHeaps x = Check.full(5, 5);
        x.set(0, 24, 0);
        x.set(1, 24, 2);
        for (int cell = 0; cell < 24; cell++) check.due("height(0, " + cell + ")", x.height(0, cell), 4);
        check.due("height(0, 24)", x.height(0, 24), 0);
        check.due("height(1, 24)", x.height(1, 24), 2);
        check.due("height(2, 24)", x.height(2, 24), 0);
        check.due("height(0, 0) of one full cell", Check.full(1, 1).height(0, 0), 4);
        check.leaves("height(2, 3)", () -> Check.busy(3, 2), h -> h.height(2, 3), 1);
    }

    private static void heightRefuses() {
        check.sentence("Promise 4: UNKNOWN");
        int[][] wrong = {{-1, 0}, {4, 0}, {MAX, 0}, {MIN, 0}, {0, -1}, {0, 6}, {3, 6}, {0, 24}, {0, MAX}, {0, MIN}, {4, 6}};
        for (int[] a : wrong) {
            check.leaves("height(" + a[0] + ", " + a[1] + ")", () -> Check.busy(3, 2), x -> x.height(a[0], a[1]), UNKNOWN);
        }
        check.due("height(0, 1) of one cell", Check.on(1, 1).height(0, 1), UNKNOWN);
        check.due("height(0, 25) of 5 by 5", Check.on(5, 5).height(0, 25), UNKNOWN);
    }

    private static void copyAnswersCellsOtherwise() {
        check.sentence("Promise 5: A SLOT becomes as another one: how many CELLS are otherwise then");
        CubeHeaps x = Check.full(5, 5);
        check.due("a full one to an empty one", x.copy(0, 3), 25);
        check.due("again", x.copy(0, 3), 0);
        check.due("an empty one to an empty one", x.copy(1, 2), 0);
        check.due("to itself", x.copy(0, 0), 0);
        x.set(3, 24, 3);
        check.due("one cell is otherwise", x.copy(0, 3), 1);
        x.set(3, 0, 0);
        check.due("a cell counts once, however high", x.copy(0, 3), 1);
        check.due("the one that was copied stays", x.cubes(0), 100);
        check.due("an empty one to a full one", x.copy(1, 3), 25);
        check.due("cubes(3)", x.cubes(3), 0);
        check.due("cubes(0), the other way round it would be 0", x.cubes(0), 100);
        x.copy(0, 3);
        x.set(0, 7, 1);
        check.due("a copy stays when the other one changes", x.height(3, 7), 4);
        CubeHeaps one = Check.full(1, 1);
        check.due("one cell", one.copy(0, 1), 1);
        check.due("one cell again", one.copy(0, 1), 0);
        CubeHeaps three = Check.busy(3, 3);
        three.copy(0, 2);
        check.due("other slots stay", three.cubes(1), 36);
        check.due("other slots stay", three.cubes(3), 0);
    }

    private static void copyRefuses() {
        check.sentence("Promise 5: UNKNOWN");
        int[][] wrong = {{-1, 0}, {4, 0}, {0, -1}, {0, 4}, {MAX, 1}, {1, MAX}, {MIN, 1}, {1, MIN}, {4, 4}, {-1, -1}};
        for (int[] a : wrong) {
            check.leaves("copy(" + a[0] + ", " + a[1] + ")", () -> Check.busy(4, 4), x -> x.copy(a[0], a[1]), UNKNOWN);
        }
    }

    private static void cubesOfEmptyAndFull() {
        check.sentence("Promise 6: How many cubes there are");
        for (int w = 1; w <= 5; w++) {
            for (int h = 1; h <= 5; h++) {
                CubeHeaps x = Check.full(w, h);
                check.due("a full heap of " + w + " by " + h, x.cubes(0), 4 * w * h);
                check.due("an empty heap", x.cubes(3), 0);
                x.set(0, w * h - 1, 3);
                check.due("one less", x.cubes(0), 4 * w * h - 1);
            }
        }
        check.leaves("cubes(1)", () -> Check.busy(3, 2), x -> x.cubes(1), 24);
    }

    private static void cubesRefuses() {
        check.sentence("Promise 6: UNKNOWN");
        for (int slot : new int[] {-1, 4, MAX, MIN}) {
            check.leaves("cubes(" + slot + ")", () -> Check.busy(3, 2), x -> x.cubes(slot), UNKNOWN);
        }
    }
}
