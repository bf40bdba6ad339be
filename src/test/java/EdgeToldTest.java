/** What is told by sides, and promises 15 to 24, sentence by sentence, at their bounds. */
public final class EdgeToldTest {
    private static final int NONE = CubeHeaps.NONE, UNKNOWN = CubeHeaps.UNKNOWN;
    private static final int OUTSIDE = CubeHeaps.OUTSIDE, STATE = CubeHeaps.STATE;
    private static final int MAX = Integer.MAX_VALUE, MIN = Integer.MIN_VALUE;
    private static final int[] NO_SLOTS = {-1, 4, NONE, MAX, MIN};
    private static final long ALL_OF_25 = 298023223876953125L;
    private static final Check check = new Check("EdgeToldTest");

    public static void main(String[] args) {
        tellTakesZeroToFourOrNone();
        tellIsOfAColumnOrARow();
        tellRefusesUnknownFirst();
        tellRefusesOutside();
        tellTopTakesZeroOneOrNone();
        tellTopRefusesUnknownFirst();
        tellTopRefusesOutside();
        tellAsCountsOtherwise();
        tellAsTellsTopsIfTops();
        tellAsIsOfTheSlotAsItWas();
        tellAsRefuses();
        fitsIfEachToldIsSo();
        fitsOfEmptyAndFull();
        fitsRefuses();
        heapsWhenNothingIsTold();
        heapsWhenAllIsTold();
        heapsOfOneLine();
        heapsAreBoundByTheToldAlone();
        heapsOfAGroundAfterAnother();
        withCountsAHeight();
        withRefusesUnknownFirst();
        spanIsTheLeastAndTheGreatest();
        spanIsNoneWhenNoneFits();
        spanRefuses();
        countIsTheFewestAndTheMost();
        countIsNoneWhenNoneFits();
        placesAreInOrder();
        layTakesPlacesThatAre();
        layRefusesOutside();
        layRefusesUnknownFirst();
        placeIsToldBack();
        placeRefusesState();
        placeRefusesUnknownFirst();
        check.end();
    }

    private static void tellTakesZeroToFourOrNone() {
        check.sentence("Promise 15: FRONTS and SIDES (0 to 4, or NONE: any): what was");
        CubeHeaps x = Check.on(5, 5);
        int[] values = {0, 1, 2, 3, 4, NONE, 4, 4, 0, NONE, NONE};
        for (int line : new int[] {0, 4}) {
            int was = NONE;
            for (int v : values) {
                check.due("tell(true, " + line + ", " + v + ")", x.tell(true, line, v), was);
                check.due("tell(false, " + line + ", " + v + ")", x.tell(false, line, v), was);
                check.due("about(2)", x.about(2), v == NONE ? 0 : 2);
                was = v;
            }
        }
    }

    private static void tellIsOfAColumnOrARow() {
        check.sentence("Promise 15: FRONT of a COLUMN is TOLD (column), SIDE of a ROW");
        CubeHeaps x = Check.on(2, 1);
        x.tell(true, 1, 0);
        check.due("a front of 0: the other cell is free", x.heaps(), 5);
        check.due("the greatest of the column's cell", x.span(1, true), 0);
        check.due("tell(true, 0) is not told by that", x.tell(true, 0, NONE), NONE);
        check.due("tell(false, 0) is not told by that", x.tell(false, 0, 0), NONE);
        check.due("a side of 0: no cell is free", x.heaps(), 1);
        check.due("tell(true, 1) is as it was", x.tell(true, 1, NONE), 0);
        check.due("about(2)", x.about(2), 1);
    }

    private static void tellRefusesUnknownFirst() {
        check.sentence("Promise 15: UNKNOWN: line; ahead of OUTSIDE");
        for (int line : new int[] {-1, 2, 3, 5, MAX, MIN}) {
            check.leaves("tell(true, " + line + ", 1) on 2 by 4", () -> Check.busy(2, 4),
                x -> x.tell(true, line, 1), UNKNOWN);
            check.leaves("tell(true, " + line + ", 5) on 2 by 4", () -> Check.busy(2, 4),
                x -> x.tell(true, line, 5), UNKNOWN);
            check.leaves("tell(false, " + line + ", NONE) on 4 by 2", () -> Check.busy(4, 2),
                x -> x.tell(false, line, NONE), UNKNOWN);
            check.leaves("tell(false, " + line + ", -1) on 4 by 2", () -> Check.busy(4, 2),
                x -> x.tell(false, line, -1), UNKNOWN);
        }
        check.due("tell(true, 4, 0) on 5 by 1", Check.on(5, 1).tell(true, 4, 0), NONE);
        check.due("tell(false, 1, 0) on 5 by 1", Check.on(5, 1).tell(false, 1, 0), UNKNOWN);
        check.due("tell(false, 4, 0) on 1 by 5", Check.on(1, 5).tell(false, 4, 0), NONE);
        check.due("tell(true, 1, 0) on 1 by 5", Check.on(1, 5).tell(true, 1, 0), UNKNOWN);
        check.due("tell(true, 5, 0) on 5 by 5", Check.on(5, 5).tell(true, 5, 0), UNKNOWN);
        check.due("tell(false, 5, 0) on 5 by 5", Check.on(5, 5).tell(false, 5, 0), UNKNOWN);
    }

    private static void tellRefusesOutside() {
        check.sentence("Promise 15: OUTSIDE");
        for (int v : new int[] {-1, 5, -2, -3, -8, -10, MAX, MIN}) {
            check.leaves("tell(true, 0, " + v + ")", () -> Check.busy(3, 2), x -> x.tell(true, 0, v), OUTSIDE);
            check.leaves("tell(false, 1, " + v + ")", () -> Check.busy(3, 2), x -> x.tell(false, 1, v), OUTSIDE);
        }
    }

    private static void tellTopTakesZeroOneOrNone() {
        check.sentence("Promise 16: TOPS (0, 1, or NONE: any): what was");
        CubeHeaps x = Check.on(5, 5);
        for (int cell : new int[] {0, 12, 24}) {
            int was = NONE;
            for (int v : new int[] {0, 1, 1, NONE, 1, 0, 0, NONE, NONE}) {
                check.due("tellTop(" + cell + ", " + v + ")", x.tellTop(cell, v), was);
                check.due("about(3)", x.about(3), v == NONE ? 0 : 1);
                was = v;
            }
        }
        check.due("the only cell", Check.on(1, 1).tellTop(0, 1), NONE);
    }

    private static void tellTopRefusesUnknownFirst() {
        check.sentence("Promise 16: UNKNOWN; ahead of OUTSIDE");
        for (int cell : new int[] {-1, 6, 24, 25, MAX, MIN}) {
            check.leaves("tellTop(" + cell + ", 1)", () -> Check.busy(3, 2), x -> x.tellTop(cell, 1), UNKNOWN);
            check.leaves("tellTop(" + cell + ", 2)", () -> Check.busy(3, 2), x -> x.tellTop(cell, 2), UNKNOWN);
        }
        check.due("tellTop(1, 0) of one cell", Check.on(1, 1).tellTop(1, 0), UNKNOWN);
        check.due("tellTop(25, 0) of 5 by 5", Check.on(5, 5).tellTop(25, 0), UNKNOWN);
    }

    private static void tellTopRefusesOutside() {
        check.sentence("Promise 16: OUTSIDE");
        for (int v : new int[] {-1, 2, 3, 4, -8, -10, MAX, MIN}) {
            check.leaves("tellTop(0, " + v + ")", () -> Check.busy(3, 2), x -> x.tellTop(0, v), OUTSIDE);
            check.leaves("tellTop(5, " + v + ")", () -> Check.busy(3, 2), x -> x.tellTop(5, v), OUTSIDE);
        }
    }

    private static void tellAsCountsOtherwise() {
        check.sentence("Promise 17: All FRONTS and SIDES are TOLD as a SLOT has them: how many were otherwise");
        for (int w = 1; w <= 5; w++) {
            for (int h = 1; h <= 5; h++) {
                CubeHeaps x = Check.full(w, h);
                check.due("nothing told: all were", x.tellAs(0, false), w + h);
                check.due("again: none was", x.tellAs(0, false), 0);
                check.due("about(2)", x.about(2), w + h);
                check.due("an empty one, told 0 and not NONE", x.tellAs(3, false), w + h);
                check.due("about(2)", x.about(2), w + h);
                check.due("FRONT told", x.tell(true, w - 1, NONE), 0);
                check.due("SIDE told", x.tell(false, h - 1, 3), 0);
                check.due("two were", x.tellAs(3, false), 2);
            }
        }
        CubeHeaps x = Check.with(3, 2, "102 034");
        x.tellAs(0, false);
        int[] fronts = {1, 3, 4};
        for (int i = 0; i < 3; i++) check.due("FRONT told of " + i, x.tell(true, i, fronts[i]), fronts[i]);
        check.due("SIDE told of 0", x.tell(false, 0, 2), 2);
        check.due("SIDE told of 1", x.tell(false, 1, 4), 4);
        x.set(0, 0, 2);
        check.due("one FRONT is otherwise, its SIDE is not", x.tellAs(0, false), 1);
    }

    private static void tellAsTellsTopsIfTops() {
        check.sentence("Promise 17: (and TOPS, if tops); TOP of a CELL: whether its HEIGHT is above 0");
        CubeHeaps x = Check.with(5, 1, "01234");
        check.due("tellAs(0, false)", x.tellAs(0, false), 6);
        check.due("about(3), no TOPS", x.about(3), 0);
        check.due("tellAs(0, true), TOPS alone were otherwise", x.tellAs(0, true), 5);
        int[] tops = {0, 1, 1, 1, 1};
        for (int cell = 0; cell < 5; cell++) check.due("TOP told of " + cell, x.tellTop(cell, tops[cell]), tops[cell]);
        check.due("an empty one without tops", x.tellAs(1, false), 5);
        check.due("TOPS stay as told", x.about(3), 5);
        check.due("TOP told of 4", x.tellTop(4, 1), 1);
        check.due("an empty one with tops", x.tellAs(1, true), 4);
        CubeHeaps large = Check.full(5, 5);
        check.due("all of 5 by 5", large.tellAs(0, true), 35);
        check.due("about(3)", large.about(3), 25);
        check.due("all of one cell", Check.full(1, 1).tellAs(0, true), 3);
    }

    private static void tellAsIsOfTheSlotAsItWas() {
        check.sentence("Promise 17: as a SLOT has them, at that time, and the SLOT stays");
        CubeHeaps x = Check.with(2, 2, "12 34");
        x.tellAs(0, true);
        check.due("fits(0)", x.fits(0), 1);
        x.set(0, 3, 3);
        check.due("fits(0) when the slot has changed", x.fits(0), 0);
        check.due("FRONT told of 1", x.tell(true, 1, 4), 4);
        check.slotIs(x, 0, "12 33");
    }

    private static void tellAsRefuses() {
        check.sentence("Promise 17: UNKNOWN");
        for (int slot : NO_SLOTS) {
            check.leaves("tellAs(" + slot + ", true)", () -> Check.busy(3, 2), x -> x.tellAs(slot, true), UNKNOWN);
            check.leaves("tellAs(" + slot + ", false)", () -> Check.busy(3, 2), x -> x.tellAs(slot, false), UNKNOWN);
        }
    }

    private static void fitsIfEachToldIsSo() {
        check.sentence("Promise 18: A HEAP FITS, if each that is told is so");
        for (int line = 0; line < 5; line++) {
            for (int v = 0; v <= 4; v++) {
                CubeHeaps x = Check.on(5, 5);
                Check.level(x, 0, 2);
                x.tell(true, line, v);
                check.due("FRONT of " + line + " told " + v, x.fits(0), v == 2 ? 1 : 0);
                x.tell(true, line, NONE);
                x.tell(false, line, v);
                check.due("SIDE of " + line + " told " + v, x.fits(0), v == 2 ? 1 : 0);
                x.tell(false, line, NONE);
                check.due("told no more", x.fits(0), 1);
            }
        }
        CubeHeaps x = Check.on(5, 5);
        x.set(0, 24, 1);
        for (int cell = 0; cell < 25; cell++) {
            x.tellTop(cell, 1);
            check.due("TOP of " + cell + " told 1", x.fits(0), cell == 24 ? 1 : 0);
            x.tellTop(cell, 0);
            check.due("TOP of " + cell + " told 0", x.fits(0), cell == 24 ? 0 : 1);
            x.tellTop(cell, NONE);
        }
    }

    private static void fitsOfEmptyAndFull() {
        check.sentence("Promise 18: Whether a SLOT FITS: 1, 0");
        for (int w = 1; w <= 5; w += 2) {
            CubeHeaps x = Check.full(w, 6 - w);
            check.due("nothing told, a full one", x.fits(0), 1);
            check.due("nothing told, an empty one", x.fits(3), 1);
            x.tellAs(0, true);
            check.due("told as the full one", x.fits(0), 1);
            check.due("told as the full one, an empty one", x.fits(3), 0);
            x.tellAs(3, true);
            check.due("told as the empty one", x.fits(3), 1);
            check.due("told as the empty one, a full one", x.fits(0), 0);
        }
        check.leaves("fits(2)", () -> Check.busy(3, 2), b -> b.fits(2), 1);
        check.leaves("fits(3)", () -> Check.busy(3, 2), b -> b.fits(3), 0);
    }

    private static void fitsRefuses() {
        check.sentence("Promise 18: UNKNOWN");
        for (int slot : NO_SLOTS) {
            check.leaves("fits(" + slot + ")", () -> Check.busy(3, 2), x -> x.fits(slot), UNKNOWN);
        }
    }

    private static void heapsWhenNothingIsTold() {
        check.sentence("Promise 19: How many HEAPS FIT, when nothing is told: all");
        for (int w = 1; w <= 5; w++) {
            for (int h = 1; h <= 5; h++) {
                check.due("heaps() of " + w + " by " + h, Check.on(w, h).heaps(), Check.power(5, w * h));
            }
        }
    }

    private static void heapsWhenAllIsTold() {
        check.sentence("Promise 19: How many HEAPS FIT, one, none");
        CubeHeaps empty = Check.on(5, 5);
        empty.tellAs(0, false);
        check.due("all told 0", empty.heaps(), 1);
        empty.tell(true, 4, 1);
        check.due("a FRONT of 1 where all SIDES are 0", empty.heaps(), 0);
        empty.tell(true, 4, 0);
        empty.tellTop(24, 1);
        check.due("a TOP of 1 where all is 0", empty.heaps(), 0);
        CubeHeaps full = Check.full(5, 5);
        full.tellAs(0, true);
        full.tellTop(0, 0);
        for (int cell = 1; cell < 5; cell++) full.tellTop(cell, 0);
        check.due("a SIDE of 4 in a row without TOPS", full.heaps(), 0);
        CubeHeaps one = Check.on(1, 1);
        one.tellTop(0, 0);
        check.due("one cell, TOP 0", one.heaps(), 1);
        one.tellTop(0, 1);
        check.due("one cell, TOP 1", one.heaps(), 4);
        one.tell(true, 0, 4);
        check.due("one cell, TOP 1, FRONT 4", one.heaps(), 1);
        one.tell(false, 0, 3);
        check.due("one cell, FRONT 4, SIDE 3", one.heaps(), 0);
    }

    private static void heapsOfOneLine() {
        check.sentence("Promise 19: How many HEAPS FIT, when one line is told each HEIGHT");
        for (int v = 0; v <= 4; v++) {
            CubeHeaps column = Check.on(1, 5);
            column.tell(true, 0, v);
            long due = Check.power(v + 1, 5) - Check.power(v, 5);
            check.due("FRONT " + v + " of one column", column.heaps(), due);
            CubeHeaps row = Check.on(5, 1);
            row.tell(false, 0, v);
            check.due("SIDE " + v + " of one row", row.heaps(), due);
            CubeHeaps large = Check.on(5, 5);
            large.tell(true, 4, v);
            check.due("FRONT " + v + " of the last column", large.heaps(), due * Check.power(5, 20));
            large.tell(true, 4, NONE);
            large.tell(false, 4, v);
            check.due("SIDE " + v + " of the last row", large.heaps(), due * Check.power(5, 20));
        }
    }

    private static void heapsAreBoundByTheToldAlone() {
        check.sentence("Promise 19: neither SUMS nor SLOTS bind them");
        CubeHeaps x = Check.full(2, 2);
        x.tellSum(true, 0, 20);
        x.sumsAs(0);
        check.due("heaps()", x.heaps(), 625);
        check.leaves("heaps()", () -> Check.busy(1, 1), CubeHeaps::heaps, 1);
    }

    private static void heapsOfAGroundAfterAnother() {
        check.sentence("Promise 19: how many were counted ahead changes no answer");
        CubeHeaps x = Check.on(1, 5);
        check.due("heaps() of 1 by 5", x.heaps(), 3125);
        x.tell(true, 0, 0);
        x.ground(2, 3);
        check.due("heaps() of 2 by 3", x.heaps(), 15625);
        x.ground(5, 1);
        check.due("heaps() of 5 by 1", x.heaps(), 3125);
        for (int column = 0; column < 5; column++) x.tell(true, column, 1);
        check.due("all FRONTS told", x.heaps(), 1);
        x.ground(1, 5);
        for (int row = 0; row < 5; row++) x.tell(false, row, 2);
        check.due("all SIDES told", x.heaps(), 1);
        x.ground(1, 4);
        check.due("heaps() of 1 by 4", x.heaps(), 625);
        x.ground(2, 2);
        check.due("heaps() of 2 by 2, as many cells", x.heaps(), 625);
        x.tell(true, 0, 0);
        x.tell(true, 1, 4);
        check.due("both FRONTS told", x.heaps(), 9);
    }

    private static void withCountsAHeight() {
        check.sentence("Promise 20: How many of these have a HEIGHT in a CELL");
        for (int height = 0; height <= 4; height++) {
            check.due("with(24, " + height + ") of all", Check.on(5, 5).with(24, height), ALL_OF_25 / 5);
            check.due("with(0, " + height + ") of all", Check.on(5, 5).with(0, height), ALL_OF_25 / 5);
            check.due("with(0, " + height + ") of one cell", Check.on(1, 1).with(0, height), 1);
        }
        CubeHeaps x = Check.on(1, 2);
        x.tell(true, 0, 2);
        long[] due = {1, 1, 3, 0, 0};
        for (int cell = 0; cell < 2; cell++) {
            for (int height = 0; height <= 4; height++) {
                check.due("with(" + cell + ", " + height + "), FRONT 2", x.with(cell, height), due[height]);
            }
        }
        x.tellTop(0, 0);
        check.due("with(0, 0), TOP 0", x.with(0, 0), 1);
        check.due("with(0, 1), TOP 0", x.with(0, 1), 0);
        check.due("with(1, 2), the other must be so", x.with(1, 2), 1);
        x.tellTop(1, 0);
        for (int height = 0; height <= 4; height++) check.due("none fits", x.with(1, height), 0);
        check.leaves("with(0, 2)", () -> Check.busy(1, 1), b -> b.with(0, 2), 1);
    }

    private static void withRefusesUnknownFirst() {
        check.sentence("Promise 20: UNKNOWN; OUTSIDE; refusals are told as longs likewise");
        for (int cell : new int[] {-1, 6, 24, 25, MAX, MIN}) {
            check.leaves("with(" + cell + ", 0)", () -> Check.busy(3, 2), x -> x.with(cell, 0), -1L);
            check.leaves("with(" + cell + ", 5)", () -> Check.busy(3, 2), x -> x.with(cell, 5), -1L);
        }
        for (int height : new int[] {-1, 5, 6, NONE, MAX, MIN}) {
            check.leaves("with(0, " + height + ")", () -> Check.busy(3, 2), x -> x.with(0, height), -2L);
            check.leaves("with(5, " + height + ")", () -> Check.busy(3, 2), x -> x.with(5, height), -2L);
        }
        check.due("with(25, 0) of 5 by 5", Check.on(5, 5).with(25, 0), -1L);
        check.due("with(1, 0) of one cell", Check.on(1, 1).with(1, 0), -1L);
    }

    private static void spanIsTheLeastAndTheGreatest() {
        check.sentence("Promise 21: The least HEIGHT that a CELL has in HEAPS that FIT (most = false), the greatest");
        CubeHeaps x = Check.on(5, 5);
        for (int cell : new int[] {0, 24}) {
            check.due("the least of all", x.span(cell, false), 0);
            check.due("the greatest of all", x.span(cell, true), 4);
            x.tellTop(cell, 1);
            check.due("the least with a TOP", x.span(cell, false), 1);
            check.due("the greatest with a TOP", x.span(cell, true), 4);
            x.tellTop(cell, 0);
            check.due("the least without", x.span(cell, false), 0);
            check.due("the greatest without", x.span(cell, true), 0);
        }
        for (int v = 0; v <= 4; v++) {
            CubeHeaps one = Check.on(1, 1);
            one.tell(true, 0, v);
            check.due("the least of one cell", one.span(0, false), v);
            check.due("the greatest of one cell", one.span(0, true), v);
            CubeHeaps two = Check.on(1, 2);
            two.tell(true, 0, v);
            check.due("the least of two cells", two.span(1, false), 0);
            check.due("the greatest of two cells", two.span(1, true), v);
        }
        check.leaves("span(0, true)", () -> Check.busy(1, 1), b -> b.span(0, true), 2);
    }

    /** No heap fits: a front and a side of one cell are told otherwise. */
    private static CubeHeaps noneFits() {
        CubeHeaps x = Check.busy(1, 1);
        x.tell(true, 0, 1);
        return x;
    }

    private static void spanIsNoneWhenNoneFits() {
        check.sentence("Promise 21: NONE: none FITS");
        check.leaves("span(0, false)", EdgeToldTest::noneFits, x -> x.span(0, false), NONE);
        check.leaves("span(0, true)", EdgeToldTest::noneFits, x -> x.span(0, true), NONE);
        CubeHeaps x = Check.on(5, 5);
        x.tell(false, 0, 0);
        x.tellTop(4, 1);
        check.due("span(24, false) of a cell elsewhere", x.span(24, false), NONE);
        check.due("span(24, true) of a cell elsewhere", x.span(24, true), NONE);
        x.tellTop(4, NONE);
        check.due("span(24, true), some fit again", x.span(24, true), 4);
    }

    private static void spanRefuses() {
        check.sentence("Promise 21: UNKNOWN");
        for (int cell : new int[] {-1, 6, 24, 25, MAX, MIN}) {
            check.leaves("span(" + cell + ", true)", () -> Check.busy(3, 2), x -> x.span(cell, true), UNKNOWN);
            check.leaves("span(" + cell + ", false)", () -> Check.busy(3, 2), x -> x.span(cell, false), UNKNOWN);
        }
        check.leaves("span(1, true), none fits", EdgeToldTest::noneFits, x -> x.span(1, true), UNKNOWN);
        check.leaves("span(-1, false), none fits", EdgeToldTest::noneFits, x -> x.span(-1, false), UNKNOWN);
        check.due("span(25, true) of 5 by 5", Check.on(5, 5).span(25, true), UNKNOWN);
    }

    private static void countIsTheFewestAndTheMost() {
        check.sentence("Promise 22: The fewest cubes of a HEAP that FITS (most = false), the most");
        for (int w = 1; w <= 5; w++) {
            for (int h = 1; h <= 5; h++) {
                CubeHeaps x = Check.full(w, h);
                check.due("the fewest of all", x.count(false), 0);
                check.due("the most of all", x.count(true), 4 * w * h);
                x.tellAs(0, false);
                check.due("the fewest that look full", x.count(false), 4 * Math.max(w, h));
                check.due("the most that look full", x.count(true), 4 * w * h);
                x.tellAs(0, true);
                int cells = w * h;
                check.due("the fewest with all TOPS", x.count(false), cells + 3 * Math.max(w, h));
                x.tellAs(3, false);
                check.due("none fits when all is 0 but TOPS", x.count(false), NONE);
                x.tellAs(3, true);
                check.due("the fewest when all is 0", x.count(false), 0);
                check.due("the most when all is 0", x.count(true), 0);
            }
        }
        check.leaves("count(true)", () -> Check.busy(1, 1), b -> b.count(true), 2);
    }

    private static void countIsNoneWhenNoneFits() {
        check.sentence("Promise 22: NONE");
        check.leaves("count(false)", EdgeToldTest::noneFits, x -> x.count(false), NONE);
        check.leaves("count(true)", EdgeToldTest::noneFits, x -> x.count(true), NONE);
        CubeHeaps x = Check.on(5, 5);
        for (int column = 0; column < 5; column++) x.tell(true, column, 3);
        x.tell(false, 2, 4);
        check.due("count(false), a SIDE above all FRONTS", x.count(false), NONE);
        check.due("count(true), a SIDE above all FRONTS", x.count(true), NONE);
        x.tell(false, 2, NONE);
        check.due("count(false), not told", x.count(false), 15);
        check.due("count(true), not told", x.count(true), 75);
    }

    private static void placesAreInOrder() {
        check.sentence("Two HEAPS are in order by HEIGHTS, CELL by CELL; those that FIT have PLACES 0, 1, ..");
        CubeHeaps x = Check.on(2, 1);
        for (int place = 0; place < 25; place++) {
            check.due("lay(0, " + place + ")", x.lay(0, place), place / 5 + place % 5);
            check.due("height(0, 0)", x.height(0, 0), place / 5);
            check.due("height(0, 1)", x.height(0, 1), place % 5);
            check.due("place(0)", x.place(0), place);
        }
        x.tell(false, 0, 1);
        String[] due = {"01", "10", "11"};
        for (int place = 0; place < 3; place++) {
            x.lay(1, place);
            check.slotIs(x, 1, due[place]);
        }
        CubeHeaps column = Check.on(1, 2);
        column.lay(0, 7);
        check.slotIs(column, 0, "1 2");
        CubeHeaps square = Check.on(2, 2);
        Check.level(square, 0, 1);
        square.tellAs(0, false);
        String[] ones = {"01 10", "01 11", "10 01", "10 11", "11 01", "11 10", "11 11"};
        check.due("heaps(), a 1 in each line", square.heaps(), ones.length);
        for (int place = 0; place < ones.length; place++) {
            square.lay(1, place);
            check.slotIs(square, 1, ones[place]);
            check.due("place(1)", square.place(1), place);
        }
        Check.heap(square, 0, "01 22");
        square.tellAs(0, false);
        square.tell(true, 0, 2);
        String[] low = {"01 22", "10 22", "11 22"};
        check.due("heaps(), a row below all FRONTS", square.heaps(), low.length);
        for (int place = 0; place < low.length; place++) {
            square.lay(1, place);
            check.slotIs(square, 1, low[place]);
            check.due("place(1)", square.place(1), place);
        }
    }

    private static void layTakesPlacesThatAre() {
        check.sentence("Promise 23: The HEAP at a PLACE comes to a SLOT: how many cubes");
        CubeHeaps x = Check.busy(1, 1);
        check.due("the only place", x.lay(1, 0), 2);
        check.slotIs(x, 1, "2");
        check.slotIs(x, 0, "1");
        check.slotIs(x, 3, "0");
        CubeHeaps large = Check.full(5, 5);
        check.due("the first of all: empty", large.lay(0, 0), 0);
        check.due("cubes(0)", large.cubes(0), 0);
        check.due("the last of all: full", large.lay(3, ALL_OF_25 - 1), 100);
        check.due("cubes(3)", large.cubes(3), 100);
        check.due("the last but one", large.lay(3, ALL_OF_25 - 2), 99);
        check.due("height(3, 24)", large.height(3, 24), 3);
        check.due("a place above an int", large.lay(2, Check.power(5, 24)), 1);
        check.due("height(2, 0)", large.height(2, 0), 1);
        CubeHeaps told = Check.on(5, 5);
        told.tellTop(0, 1);
        check.due("the first with a TOP", told.lay(0, 0), 1);
        check.due("the last with a TOP", told.lay(0, ALL_OF_25 / 5 * 4 - 1), 100);
        check.due("none behind it", told.lay(0, ALL_OF_25 / 5 * 4), OUTSIDE);
    }

    private static void layRefusesOutside() {
        check.sentence("Promise 23: OUTSIDE: there is no such PLACE");
        for (long place : new long[] {-1, 1, 2, 1L << 32, -(1L << 32), Long.MAX_VALUE, Long.MIN_VALUE}) {
            check.leaves("lay(0, " + place + ")", () -> Check.busy(1, 1), x -> x.lay(0, place), OUTSIDE);
        }
        check.leaves("lay(0, 0), none fits", EdgeToldTest::noneFits, x -> x.lay(0, 0), OUTSIDE);
        check.leaves("lay(3, 5), all of one cell", () -> Check.on(1, 1), x -> x.lay(3, 5), OUTSIDE);
        check.due("lay(3, 4), the last of one cell", Check.on(1, 1).lay(3, 4), 4);
        check.leaves("lay behind all", () -> Check.full(5, 5), x -> x.lay(0, ALL_OF_25), OUTSIDE);
        check.leaves("lay before all", () -> Check.full(5, 5), x -> x.lay(0, -1), OUTSIDE);
    }

    private static void layRefusesUnknownFirst() {
        check.sentence("Promise 23: UNKNOWN; ahead of OUTSIDE");
        for (int slot : NO_SLOTS) {
            check.leaves("lay(" + slot + ", 0)", () -> Check.busy(1, 1), x -> x.lay(slot, 0), UNKNOWN);
            check.leaves("lay(" + slot + ", -1)", () -> Check.busy(1, 1), x -> x.lay(slot, -1), UNKNOWN);
            check.leaves("lay(" + slot + ", 0), none fits", EdgeToldTest::noneFits, x -> x.lay(slot, 0), UNKNOWN);
        }
    }

    private static void placeIsToldBack() {
        check.sentence("Promise 24: The PLACE of a SLOT");
        CubeHeaps x = Check.full(5, 5);
        check.due("a full one", x.place(0), ALL_OF_25 - 1);
        check.due("an empty one", x.place(3), 0);
        x.tellAs(0, true);
        check.due("a full one is the last that fits", x.place(0), x.heaps() - 1);
        CubeHeaps one = Check.on(1, 1);
        for (int height = 0; height <= 4; height++) {
            one.set(2, 0, height);
            check.due("one cell of " + height, one.place(2), height);
        }
        check.leaves("place(2)", () -> Check.busy(1, 1), b -> b.place(2), 0);
        CubeHeaps top = Check.with(1, 2, "3 1");
        top.tellTop(0, 1);
        check.due("places before a TOP do not count", top.place(0), 2 * 5 + 1);
    }

    private static void placeRefusesState() {
        check.sentence("Promise 24: STATE: it does not FIT; refusals are told as longs likewise");
        check.leaves("place(0)", () -> Check.busy(1, 1), x -> x.place(0), -3L);
        check.leaves("place(3), empty", () -> Check.busy(1, 1), x -> x.place(3), -3L);
        check.leaves("place(1), full", () -> Check.busy(1, 1), x -> x.place(1), -3L);
        check.leaves("place(2), none fits", EdgeToldTest::noneFits, x -> x.place(2), -3L);
        CubeHeaps x = Check.full(5, 5);
        x.tellTop(24, 0);
        check.due("a full one where a TOP is 0", x.place(0), STATE);
        check.due("an empty one", x.place(1), 0);
        x.tellTop(24, 1);
        check.due("an empty one where a TOP is 1", x.place(1), STATE);
    }

    private static void placeRefusesUnknownFirst() {
        check.sentence("Promise 24: UNKNOWN; ahead of STATE; refusals are told as longs likewise");
        for (int slot : NO_SLOTS) {
            check.leaves("place(" + slot + ")", () -> Check.busy(1, 1), x -> x.place(slot), -1L);
            check.leaves("place(" + slot + "), none fits", EdgeToldTest::noneFits, x -> x.place(slot), -1L);
        }
    }
}
