import java.util.Arrays;

/** What is told by sums, and promises 25 to 29, sentence by sentence, at their bounds. */
public final class EdgeSumsTest {
    private static final int NONE = CubeHeaps.NONE, UNKNOWN = CubeHeaps.UNKNOWN;
    private static final int OUTSIDE = CubeHeaps.OUTSIDE, STATE = CubeHeaps.STATE;
    private static final int MAX = Integer.MAX_VALUE, MIN = Integer.MIN_VALUE;
    private static final int[] NO_SLOTS = {-1, 4, NONE, MAX, MIN};
    private static final Check check = new Check("EdgeSumsTest");

    public static void main(String[] args) {
        sumsAreAllZeroAtFirst();
        sumsBindColumnsAndRows();
        noCellIsHigherThanFour();
        cellsWithTopZeroAreZero();
        cellsWithTopOneAreOneAtLeast();
        frontsAndSidesDoNotBind();
        tellSumTakesZeroToTwenty();
        tellSumRefusesUnknownFirst();
        tellSumRefusesOutside();
        sumsAsOfEmptyAndFull();
        sumsAsReplacesAll();
        sumsAsRefuses();
        bySumsIsNone();
        bySumsIsButOne();
        bySumsIsMore();
        laySumsLaysTheFirst();
        laySumsOfEmptyAndFull();
        laySumsRefusesState();
        laySumsRefusesUnknownFirst();
        spanSumsIsTheLeastAndTheGreatest();
        spanSumsIsNone();
        spanSumsRefuses();
        askedAgainItIsTheSame();
        check.end();
    }

    /** A ground whose sums are told, columns first. */
    private static CubeHeaps sums(int[] columns, int[] rows) {
        CubeHeaps x = Check.on(columns.length, rows.length);
        for (int i = 0; i < columns.length; i++) x.tellSum(true, i, columns[i]);
        for (int i = 0; i < rows.length; i++) x.tellSum(false, i, rows[i]);
        return x;
    }

    private static int[] all(int lines, int v) {
        int[] values = new int[lines];
        Arrays.fill(values, v);
        return values;
    }

    /** Busy, and no heap is there for its sums: columns have a cube more than rows. */
    private static CubeHeaps noneForSums() {
        CubeHeaps x = Check.busy(3, 2);
        x.sumsAs(3);
        x.tellSum(true, 0, 1);
        return x;
    }

    private static void sumsAreAllZeroAtFirst() {
        check.sentence("SUMS: all 0 at first");
        for (int w = 1; w <= 5; w++) {
            CubeHeaps x = Check.on(w, 6 - w);
            for (int column = 0; column < w; column++) check.due("SUM of a column", x.tellSum(true, column, 0), 0);
            for (int row = 0; row < 6 - w; row++) check.due("SUM of a row", x.tellSum(false, row, 0), 0);
            check.due("bySums(): the empty heap alone", x.bySums(), 1);
        }
        check.due("bySums() of a new object", new CubeHeaps().bySums(), 1);
    }

    private static void sumsBindColumnsAndRows() {
        check.sentence("SUMS: how many cubes stand in each COLUMN and each ROW");
        CubeHeaps x = sums(new int[] {1, 0, 4}, new int[] {0, 5});
        check.due("laySums(0)", x.laySums(0), 5);
        check.slotIs(x, 0, "000 104");
        CubeHeaps y = sums(new int[] {0, 5}, new int[] {1, 0, 4});
        check.due("laySums(0)", y.laySums(0), 5);
        check.slotIs(y, 0, "01 00 04");
        check.due("a column alone", sums(new int[] {1, 0}, new int[] {0, 0}).bySums(), 0);
        check.due("a row alone", sums(new int[] {0, 0}, new int[] {0, 1}).bySums(), 0);
    }

    private static void noCellIsHigherThanFour() {
        check.sentence("SUMS: and no CELL higher than 4");
        for (int v = 0; v <= 20; v++) {
            CubeHeaps x = sums(new int[] {v}, new int[] {v});
            check.due("one cell of " + v, x.bySums(), v <= 4 ? 1 : 0);
            check.due("laySums(0)", x.laySums(0), v <= 4 ? v : STATE);
            check.due("spanSums(0, true)", x.spanSums(0, true), v <= 4 ? v : NONE);
        }
        check.due("four in a corner", sums(new int[] {4, 0}, new int[] {4, 0}).bySums(), 1);
        check.due("five in a corner", sums(new int[] {5, 0}, new int[] {5, 0}).bySums(), 0);
        check.due("five, one of them elsewhere", sums(new int[] {5, 0}, new int[] {4, 1}).bySums(), 1);
        check.due("twenty in one row of 5", sums(all(5, 4), new int[] {20}).bySums(), 1);
        check.due("twenty in one column of 5", sums(new int[] {20}, all(5, 4)).bySums(), 1);
        check.due("twenty in one row of 4", sums(all(4, 5), new int[] {20}).bySums(), 0);
    }

    private static void cellsWithTopZeroAreZero() {
        check.sentence("SUMS: and CELLS with TOP 0 told are 0");
        CubeHeaps x = sums(new int[] {4, 4}, new int[] {4, 4});
        check.due("span of cell 0", x.spanSums(0, true), 4);
        x.tellTop(0, 0);
        check.due("span of cell 0, TOP 0", x.spanSums(0, true), 0);
        check.due("but one is left", x.bySums(), 1);
        x.laySums(0);
        check.slotIs(x, 0, "04 40");
        x.tellTop(1, 0);
        check.due("no cell of the row is left", x.bySums(), 0);
        x.tellTop(0, NONE);
        check.due("the other way", x.bySums(), 1);
        CubeHeaps empty = Check.on(5, 5);
        for (int cell = 0; cell < 25; cell++) empty.tellTop(cell, 0);
        check.due("an empty heap is not bound by that", empty.bySums(), 1);
        CubeHeaps full = sums(all(5, 20), all(5, 20));
        full.tellTop(24, 0);
        check.due("a full one is", full.bySums(), 0);
    }

    private static void cellsWithTopOneAreOneAtLeast() {
        check.sentence("SUMS: those with 1 told at least 1");
        CubeHeaps x = sums(new int[] {2, 1}, new int[] {2, 1});
        check.due("the least of cell 3", x.spanSums(3, false), 0);
        x.tellTop(3, 1);
        check.due("the least of cell 3, TOP 1", x.spanSums(3, false), 1);
        check.due("but one is left", x.bySums(), 1);
        x.laySums(0);
        check.slotIs(x, 0, "20 01");
        x.tellTop(2, 1);
        check.due("a row has not as many", x.bySums(), 0);
        CubeHeaps empty = Check.on(5, 5);
        empty.tellTop(12, 1);
        check.due("an empty heap is bound by one", empty.bySums(), 0);
        CubeHeaps all = sums(all(5, 5), all(5, 5));
        for (int cell = 0; cell < 25; cell++) all.tellTop(cell, 1);
        check.due("one in each cell", all.bySums(), 1);
        check.due("laySums(0)", all.laySums(0), 25);
        all.tellSum(true, 0, 4);
        all.tellSum(false, 0, 4);
        check.due("one less", all.bySums(), 0);
        CubeHeaps full = sums(all(5, 20), all(5, 20));
        for (int cell = 0; cell < 25; cell++) full.tellTop(cell, 1);
        check.due("a full one has all", full.bySums(), 1);
        CubeHeaps column = sums(new int[] {2, 0}, new int[] {1, 1});
        column.tellTop(1, 1);
        check.due("in a column of 0, though as many stand in both", column.bySums(), 0);
        CubeHeaps row = sums(new int[] {1, 1}, new int[] {2, 0});
        row.tellTop(2, 1);
        check.due("in a row of 0, though as many stand in both", row.bySums(), 0);
        CubeHeaps first = sums(new int[] {0, 2}, new int[] {1, 1});
        first.tellTop(2, 1);
        check.due("in the first column, of 0", first.bySums(), 0);
    }

    private static void frontsAndSidesDoNotBind() {
        check.sentence("SUMS: TOPS are named, FRONTS and SIDES that are TOLD are not");
        CubeHeaps x = sums(new int[] {3}, new int[] {3});
        x.tell(true, 0, 1);
        x.tell(false, 0, 4);
        check.due("bySums()", x.bySums(), 1);
        check.due("laySums(0)", x.laySums(0), 3);
    }

    private static void tellSumTakesZeroToTwenty() {
        check.sentence("Promise 25: SUM of a COLUMN (column), a ROW (0 to 20 each): what it was");
        CubeHeaps x = Check.on(5, 5);
        for (int line : new int[] {0, 4}) {
            int was = 0;
            for (int v : new int[] {20, 19, 1, 0, 0, 20, 20, 7}) {
                check.due("tellSum(true, " + line + ", " + v + ")", x.tellSum(true, line, v), was);
                check.due("tellSum(false, " + line + ", " + v + ")", x.tellSum(false, line, v), was);
                was = v;
            }
        }
        check.due("a line between stays", x.tellSum(true, 2, 0), 0);
        CubeHeaps apart = Check.on(2, 2);
        apart.tellSum(true, 1, 6);
        check.due("the row of the same number stays", apart.tellSum(false, 1, 5), 0);
        check.due("the column of the same number stays", apart.tellSum(true, 1, 6), 6);
        CubeHeaps one = Check.on(1, 1);
        check.due("20 on one cell, though no heap has so many", one.tellSum(true, 0, 20), 0);
        check.due("it is taken", one.tellSum(true, 0, 0), 20);
    }

    private static void tellSumRefusesUnknownFirst() {
        check.sentence("Promise 25: UNKNOWN: line; ahead of OUTSIDE");
        for (int line : new int[] {-1, 2, 3, 5, MAX, MIN}) {
            check.leaves("tellSum(true, " + line + ", 1) on 2 by 4", () -> Check.busy(2, 4),
                x -> x.tellSum(true, line, 1), UNKNOWN);
            check.leaves("tellSum(true, " + line + ", 21) on 2 by 4", () -> Check.busy(2, 4),
                x -> x.tellSum(true, line, 21), UNKNOWN);
            check.leaves("tellSum(false, " + line + ", 1) on 4 by 2", () -> Check.busy(4, 2),
                x -> x.tellSum(false, line, 1), UNKNOWN);
            check.leaves("tellSum(false, " + line + ", -1) on 4 by 2", () -> Check.busy(4, 2),
                x -> x.tellSum(false, line, -1), UNKNOWN);
        }
        check.due("tellSum(true, 4, 1) on 5 by 1", Check.on(5, 1).tellSum(true, 4, 1), 0);
        check.due("tellSum(false, 1, 1) on 5 by 1", Check.on(5, 1).tellSum(false, 1, 1), UNKNOWN);
        check.due("tellSum(false, 4, 1) on 1 by 5", Check.on(1, 5).tellSum(false, 4, 1), 0);
        check.due("tellSum(true, 1, 1) on 1 by 5", Check.on(1, 5).tellSum(true, 1, 1), UNKNOWN);
        check.due("tellSum(true, 5, 1) on 5 by 5", Check.on(5, 5).tellSum(true, 5, 1), UNKNOWN);
        check.due("tellSum(false, 5, 1) on 5 by 5", Check.on(5, 5).tellSum(false, 5, 1), UNKNOWN);
    }

    private static void tellSumRefusesOutside() {
        check.sentence("Promise 25: OUTSIDE");
        for (int v : new int[] {-1, 21, 22, NONE, MAX, MIN}) {
            check.leaves("tellSum(true, 0, " + v + ")", () -> Check.busy(3, 2), x -> x.tellSum(true, 0, v), OUTSIDE);
            check.leaves("tellSum(false, 1, " + v + ")", () -> Check.busy(3, 2), x -> x.tellSum(false, 1, v), OUTSIDE);
        }
    }

    private static void sumsAsOfEmptyAndFull() {
        check.sentence("Promise 26: All SUMS as a SLOT has them: its cubes");
        for (int w = 1; w <= 5; w++) {
            for (int h = 1; h <= 5; h++) {
                CubeHeaps x = Check.full(w, h);
                check.due("a full one of " + w + " by " + h, x.sumsAs(0), 4 * w * h);
                for (int column = 0; column < w; column++) check.due("a column", x.tellSum(true, column, 4 * h), 4 * h);
                for (int row = 0; row < h; row++) check.due("a row", x.tellSum(false, row, 4 * w), 4 * w);
                check.due("an empty one", x.sumsAs(3), 0);
                for (int column = 0; column < w; column++) check.due("a column", x.tellSum(true, column, 0), 0);
                for (int row = 0; row < h; row++) check.due("a row", x.tellSum(false, row, 0), 0);
            }
        }
    }

    private static void sumsAsReplacesAll() {
        check.sentence("Promise 26: All SUMS, and nothing else");
        CubeHeaps x = sums(all(3, 20), all(2, 20));
        Check.heap(x, 2, "102 034");
        check.due("sumsAs(2)", x.sumsAs(2), 10);
        int[] columns = {1, 3, 6};
        int[] rows = {3, 7};
        for (int i = 0; i < 3; i++) check.due("SUM of column " + i, x.tellSum(true, i, columns[i]), columns[i]);
        for (int i = 0; i < 2; i++) check.due("SUM of row " + i, x.tellSum(false, i, rows[i]), rows[i]);
        check.slotIs(x, 2, "102 034");
        check.due("no FRONT is told by that", x.about(2), 0);
        check.due("no TOP is told by that", x.about(3), 0);
        x.set(2, 0, 4);
        check.due("SUMS stay when the slot changes", x.tellSum(true, 0, 1), 1);
        check.leaves("sumsAs(0) again", () -> Check.busy(3, 2), b -> b.sumsAs(0), 11);
    }

    private static void sumsAsRefuses() {
        check.sentence("Promise 26: UNKNOWN");
        for (int slot : NO_SLOTS) {
            check.leaves("sumsAs(" + slot + ")", () -> Check.busy(3, 2), x -> x.sumsAs(slot), UNKNOWN);
        }
    }

    private static void bySumsIsNone() {
        check.sentence("Promise 27: Whether there is a HEAP for SUMS: 0 none");
        check.due("more in rows than in columns", sums(new int[] {1, 1}, new int[] {1, 2}).bySums(), 0);
        check.due("more in columns than in rows", sums(new int[] {2, 1}, new int[] {1, 1}).bySums(), 0);
        check.due("a line that can't hold so many", sums(new int[] {9, 0}, new int[] {5, 4}).bySums(), 0);
        check.due("each line could, both can't", sums(new int[] {8, 0, 0}, new int[] {6, 2, 0}).bySums(), 0);
        check.due("as many as can be told", sums(all(4, 20), all(4, 20)).bySums(), 0);
        check.leaves("bySums()", EdgeSumsTest::noneForSums, CubeHeaps::bySums, 0);
    }

    private static void bySumsIsButOne() {
        check.sentence("Promise 27: 1 but one");
        check.due("an empty one", sums(all(5, 0), all(5, 0)).bySums(), 1);
        check.due("a full one", sums(all(5, 20), all(5, 20)).bySums(), 1);
        check.due("one row", sums(new int[] {1, 2, 3, 4, 0}, new int[] {10}).bySums(), 1);
        check.due("one column", sums(new int[] {10}, new int[] {0, 4, 3, 2, 1}).bySums(), 1);
        check.due("one cube", sums(new int[] {0, 0, 0, 0, 1}, new int[] {0, 0, 0, 0, 1}).bySums(), 1);
        check.due("one cube is missing", sums(new int[] {20, 20, 20, 20, 19}, new int[] {20, 20, 20, 20, 19}).bySums(), 1);
        check.due("steps", sums(new int[] {8, 4}, new int[] {8, 4}).bySums(), 1);
    }

    private static void bySumsIsMore() {
        check.sentence("Promise 27: 2 more");
        check.due("two", sums(new int[] {1, 1}, new int[] {1, 1}).bySums(), 2);
        check.due("two in the last corner",
            sums(new int[] {20, 20, 20, 19, 19}, new int[] {20, 20, 20, 19, 19}).bySums(), 2);
        check.due("very many", sums(all(5, 10), all(5, 10)).bySums(), 2);
        check.due("six", sums(all(3, 1), all(3, 1)).bySums(), 2);
        check.leaves("bySums()", () -> sums(all(3, 1), all(3, 1)), CubeHeaps::bySums, 2);
        CubeHeaps ring = sums(all(3, 1), all(3, 1));
        for (int cell : new int[] {0, 4, 8}) ring.tellTop(cell, 0);
        check.due("two that differ along a ring of six", ring.bySums(), 2);
        ring.tellTop(1, 0);
        check.due("one of them is forbidden", ring.bySums(), 1);
    }

    private static void laySumsLaysTheFirst() {
        check.sentence("Promise 28: THE FIRST HEAP for them (in order) comes to a SLOT: how many cubes");
        CubeHeaps x = sums(new int[] {1, 1}, new int[] {1, 1});
        check.due("laySums(3)", x.laySums(3), 2);
        check.slotIs(x, 3, "01 10");
        x.tellTop(1, 0);
        check.due("laySums(3), TOP 0", x.laySums(3), 2);
        check.slotIs(x, 3, "10 01");
        CubeHeaps three = sums(all(3, 1), all(3, 1));
        three.laySums(0);
        check.slotIs(three, 0, "001 010 100");
        CubeHeaps large = sums(all(5, 4), all(5, 4));
        large.laySums(0);
        check.slotIs(large, 0, "00004 00040 00400 04000 40000");
        CubeHeaps oblong = sums(new int[] {2, 2, 2}, new int[] {5, 1});
        check.due("laySums(0)", oblong.laySums(0), 6);
        check.slotIs(oblong, 0, "122 100");
        check.due("other slots stay", oblong.cubes(1), 0);
        check.due("SUMS stay", oblong.tellSum(false, 0, 5), 5);
        check.due("laid again", oblong.laySums(1), 6);
        check.due("it is the same", oblong.copy(0, 1), 0);
    }

    private static void laySumsOfEmptyAndFull() {
        check.sentence("Promise 28: of SUMS that are 0 and as great as can be");
        CubeHeaps x = Check.full(5, 5);
        check.due("an empty one to a full slot", x.laySums(0), 0);
        check.due("cubes(0)", x.cubes(0), 0);
        CubeHeaps full = sums(all(5, 20), all(5, 20));
        check.due("a full one to an empty slot", full.laySums(3), 100);
        check.due("cubes(3)", full.cubes(3), 100);
        check.due("cubes(2)", full.cubes(2), 0);
        CubeHeaps one = sums(all(1, 4), all(1, 4));
        check.due("one cell", one.laySums(0), 4);
        check.slotIs(one, 0, "4");
    }

    private static void laySumsRefusesState() {
        check.sentence("Promise 28: STATE: there is none");
        for (int slot = 0; slot < 4; slot++) {
            int to = slot;
            check.leaves("laySums(" + slot + ")", EdgeSumsTest::noneForSums, x -> x.laySums(to), STATE);
        }
        check.due("a cell too high", sums(all(1, 5), all(1, 5)).laySums(0), STATE);
        check.due("a TOP too many", topTooMany().laySums(0), STATE);
    }

    private static CubeHeaps topTooMany() {
        CubeHeaps x = Check.on(2, 2);
        x.tellTop(3, 1);
        return x;
    }

    private static void laySumsRefusesUnknownFirst() {
        check.sentence("Promise 28: UNKNOWN; ahead of STATE");
        for (int slot : NO_SLOTS) {
            check.leaves("laySums(" + slot + ")", () -> Check.full(3, 2), x -> x.laySums(slot), UNKNOWN);
            check.leaves("laySums(" + slot + "), none", EdgeSumsTest::noneForSums, x -> x.laySums(slot), UNKNOWN);
        }
    }

    private static void spanSumsIsTheLeastAndTheGreatest() {
        check.sentence("Promise 29: The least HEIGHT of a CELL in HEAPS for them (most = false), the greatest");
        for (int v = 0; v <= 4; v++) {
            CubeHeaps x = sums(all(5, 5 * v), all(5, 5 * v));
            check.due("the least of the first, " + v + " in each", x.spanSums(0, false), v == 4 ? 4 : 0);
            check.due("the greatest of the last, " + v + " in each", x.spanSums(24, true), v == 0 ? 0 : 4);
            CubeHeaps one = sums(all(1, v), all(1, v));
            check.due("the least of one cell", one.spanSums(0, false), v);
            check.due("the greatest of one cell", one.spanSums(0, true), v);
        }
        CubeHeaps x = sums(new int[] {7, 2}, new int[] {6, 3});
        check.due("the least, the others are full", x.spanSums(0, false), 4);
        check.due("the greatest", x.spanSums(0, true), 4);
        check.due("the least of cell 2", x.spanSums(2, false), 3);
        CubeHeaps y = sums(new int[] {5, 3}, new int[] {5, 3});
        int[] least = {2, 1, 1, 0};
        for (int cell = 0; cell < 4; cell++) {
            check.due("the least of cell " + cell, y.spanSums(cell, false), least[cell]);
            check.due("the greatest of cell " + cell, y.spanSums(cell, true), least[cell] + 2);
        }
        CubeHeaps wide = sums(all(5, 8), all(5, 8));
        for (int cell = 0; cell < 25; cell++) {
            check.due("the least of " + cell + ", others can hold all", wide.spanSums(cell, false), 0);
            check.due("the greatest of " + cell + ", others can be 0", wide.spanSums(cell, true), 4);
        }
        check.leaves("spanSums(3, true)", () -> sums(new int[] {5, 3}, new int[] {5, 3}), b -> b.spanSums(3, true), 2);
    }

    private static void spanSumsIsNone() {
        check.sentence("Promise 29: NONE");
        for (int cell = 0; cell < 6; cell++) {
            int of = cell;
            check.leaves("spanSums(" + cell + ", false)", EdgeSumsTest::noneForSums, x -> x.spanSums(of, false), NONE);
            check.leaves("spanSums(" + cell + ", true)", EdgeSumsTest::noneForSums, x -> x.spanSums(of, true), NONE);
        }
        check.due("a cell too high", sums(all(1, 5), all(1, 5)).spanSums(0, true), NONE);
        check.due("a TOP too many", topTooMany().spanSums(0, false), NONE);
    }

    private static void spanSumsRefuses() {
        check.sentence("Promise 29: UNKNOWN");
        for (int cell : new int[] {-1, 6, 24, 25, MAX, MIN}) {
            check.leaves("spanSums(" + cell + ", true)", () -> Check.full(3, 2), x -> x.spanSums(cell, true), UNKNOWN);
            check.leaves("spanSums(" + cell + ", false), none", EdgeSumsTest::noneForSums,
                x -> x.spanSums(cell, false), UNKNOWN);
        }
        check.due("spanSums(25, true) of 5 by 5", Check.on(5, 5).spanSums(25, true), UNKNOWN);
        check.due("spanSums(1, true) of one cell", Check.on(1, 1).spanSums(1, true), UNKNOWN);
    }

    private static void askedAgainItIsTheSame() {
        check.sentence("Promises 27 to 29: what was asked ahead changes no answer");
        CubeHeaps x = sums(new int[] {1, 1}, new int[] {1, 1});
        x.tellTop(3, 0);
        for (int cell = 0; cell < 4; cell++) {
            int only = cell == 1 || cell == 2 ? 1 : 0;
            check.due("spanSums(" + cell + ", true)", x.spanSums(cell, true), only);
            check.due("laySums(0) behind it", x.laySums(0), 2);
            check.slotIs(x, 0, "01 10");
            check.due("spanSums(" + cell + ", false)", x.spanSums(cell, false), only);
            check.due("bySums() behind it", x.bySums(), 1);
        }
    }
}
