/** Carrying and turns, and promises 30 to 35, sentence by sentence, at their bounds. */
public final class EdgeCarriedTurnedTest {
    private static final int NONE = CubeHeaps.NONE, UNKNOWN = CubeHeaps.UNKNOWN;
    private static final int OUTSIDE = CubeHeaps.OUTSIDE, STATE = CubeHeaps.STATE;
    private static final int MAX = Integer.MAX_VALUE, MIN = Integer.MIN_VALUE;
    private static final int[] NO_SLOTS = {-1, 4, NONE, MAX, MIN};
    private static final Check check = new Check("EdgeCarriedTurnedTest");

    public static void main(String[] args) {
        carryingCostsSteps();
        carryingIsTheLeast();
        carryingOfEmptyAndFull();
        carryingIsNoneWithoutAsMany();
        carryRefuses();
        turnsOfAQuarter();
        turnsOfAnOblong();
        turnsOfOneRowAndOneColumn();
        turnAnswersCellsOtherwise();
        turnRefusesState();
        turnRefusesOutside();
        turnRefusesUnknownFirst();
        alikeByATurn();
        alikeByTurnsThatLeaveWAndH();
        alikeRefuses();
        sameCountsTurns();
        sameRefuses();
        leastIsTheFirstInOrder();
        leastIsTheLeastTurn();
        leastRefuses();
        aboutAtFirstAndAtMost();
        aboutCountsWhatIsTold();
        aboutRefuses();
        check.end();
    }

    private static CubeHeaps two(int w, int h, String zero, String one) {
        CubeHeaps x = Check.with(w, h, zero);
        Check.heap(x, 1, one);
        return x;
    }

    private static void carryingCostsSteps() {
        check.sentence("CARRYING: each cube that is carried costs the steps from CELL to CELL (along x and along y)");
        for (int w = 1; w <= 5; w++) {
            for (int h = 1; h <= 5; h++) {
                CubeHeaps x = Check.on(w, h);
                x.set(0, 0, 1);
                x.set(1, w * h - 1, 1);
                check.due("one cube from corner to corner of " + w + " by " + h, x.carry(0, 1), w - 1 + h - 1);
                x.set(0, 0, 4);
                x.set(1, w * h - 1, 4);
                check.due("four cubes", x.carry(0, 1), 4 * (w - 1 + h - 1));
                check.due("and back", x.carry(1, 0), 4 * (w - 1 + h - 1));
            }
        }
        check.due("the last of a row to the first of the next", two(5, 2, "00001 00000", "00000 10000").carry(0, 1), 5);
        check.due("over a corner", two(2, 2, "10 00", "00 01").carry(0, 1), 2);
        check.due("over the other corner", two(2, 2, "01 00", "00 10").carry(0, 1), 2);
        check.due("the height that it falls or climbs is free", two(2, 1, "40", "31").carry(0, 1), 1);
    }

    private static void carryingIsTheLeast() {
        check.sentence("Promise 30: THE LEAST CARRYING from a SLOT to another one: so few steps together");
        check.due("each by one", two(5, 1, "11110", "01111").carry(0, 1), 4);
        check.due("not the nearest first", two(5, 1, "01100", "00011").carry(0, 1), 4);
        check.due("the nearest would leave a long way", two(4, 1, "0110", "1001").carry(0, 1), 2);
        check.due("one by one to all sides", two(3, 3, "000 040 000", "010 101 010").carry(0, 1), 4);
        check.due("from all sides", two(3, 3, "010 101 010", "000 040 000").carry(0, 1), 4);
        check.due("two ways that could cross", two(2, 2, "10 01", "01 10").carry(0, 1), 2);
        check.due("the most steps along a row", two(5, 1, "44000", "00044").carry(0, 1), 24);
        check.due("the most steps along a column", two(1, 5, "4 4 0 0 0", "0 0 0 4 4").carry(0, 1), 24);
        check.due("half of 5 by 5 to the other half",
            two(5, 5, "44444 44444 00000 00000 00000", "00000 00000 00000 44444 44444").carry(0, 1), 120);
        check.due("from the edge to the middle",
            two(5, 5, "40004 00000 00000 00000 40004", "00000 04040 00000 04040 00000").carry(0, 1), 32);
        check.due("some stay", two(3, 1, "321", "123").carry(0, 1), 4);
    }

    private static void carryingOfEmptyAndFull() {
        check.sentence("CARRYING: nothing to carry");
        for (int w = 1; w <= 5; w++) {
            CubeHeaps x = Check.full(w, 6 - w);
            x.copy(0, 1);
            check.due("a full one to a full one", x.carry(0, 1), 0);
            check.due("an empty one to an empty one", x.carry(2, 3), 0);
            check.due("a full one to itself", x.carry(0, 0), 0);
            check.due("an empty one to itself", x.carry(3, 3), 0);
        }
        check.leaves("carry(0, 1)", () -> two(2, 1, "40", "31"), x -> x.carry(0, 1), 1);
        check.leaves("carry(2, 2)", () -> Check.busy(5, 5), x -> x.carry(2, 2), 0);
    }

    private static void carryingIsNoneWithoutAsMany() {
        check.sentence("CARRYING, NONE: they have not as many");
        check.due("one more", two(5, 5, "44444 44444 44444 44444 44444", "44444 44444 44444 44444 44443").carry(0, 1), NONE);
        check.due("one less", two(5, 5, "44444 44444 44444 44444 44443", "44444 44444 44444 44444 44444").carry(0, 1), NONE);
        check.due("one cube to none", two(1, 1, "1", "0").carry(0, 1), NONE);
        check.due("none to one cube", two(1, 1, "0", "1").carry(0, 1), NONE);
        check.leaves("carry(1, 3)", () -> Check.busy(3, 2), x -> x.carry(1, 3), NONE);
        check.leaves("carry(3, 1)", () -> Check.busy(3, 2), x -> x.carry(3, 1), NONE);
    }

    private static void carryRefuses() {
        check.sentence("Promise 30: UNKNOWN");
        for (int slot : NO_SLOTS) {
            check.leaves("carry(" + slot + ", 0)", () -> Check.busy(3, 2), x -> x.carry(slot, 0), UNKNOWN);
            check.leaves("carry(0, " + slot + ")", () -> Check.busy(3, 2), x -> x.carry(0, slot), UNKNOWN);
            check.leaves("carry(" + slot + ", " + slot + ")", () -> Check.busy(3, 2), x -> x.carry(slot, slot), UNKNOWN);
        }
    }

    private static void turned(int w, int h, String heap, int t, String due) {
        CubeHeaps x = Check.with(w, h, heap);
        x.copy(0, 1);
        int changed = x.turn(0, t);
        check.slotIs(x, 0, due);
        check.due("turn(0, " + t + ")", changed, x.copy(0, 1));
    }

    private static void turnsOfAQuarter() {
        check.sentence("TURNS (0 to 7): 0 as it is; 1 a quarter: CELL x, y comes to H - 1 - y, x; 2 half; 3; 4 to 7 mirrored first");
        String[] due = {"12 34", "31 42", "43 21", "24 13", "21 43", "42 31", "34 12", "13 24"};
        for (int t = 0; t < 8; t++) turned(2, 2, "12 34", t, due[t]);
        for (int t = 0; t < 8; t++) {
            CubeHeaps x = Check.on(5, 5);
            x.set(0, 1, 3);
            x.turn(0, t);
            int[] cells = {1, 9, 23, 15, 3, 19, 21, 5};
            check.due("cell 1 of 5 by 5 by turn " + t, x.height(0, cells[t]), 3);
            check.due("cubes(0)", x.cubes(0), 3);
        }
        CubeHeaps round = Check.with(3, 3, "120 340 001");
        for (int i = 0; i < 4; i++) round.turn(0, 1);
        check.slotIs(round, 0, "120 340 001");
    }

    private static void turnsOfAnOblong() {
        check.sentence("Promise 31: only TURNS that leave W and H as they are");
        turned(3, 2, "123 400", 0, "123 400");
        turned(3, 2, "123 400", 2, "004 321");
        turned(3, 2, "123 400", 4, "321 004");
        turned(3, 2, "123 400", 6, "400 123");
        turned(2, 3, "12 34 00", 0, "12 34 00");
        turned(2, 3, "12 34 00", 2, "00 43 21");
        turned(2, 3, "12 34 00", 4, "21 43 00");
        turned(2, 3, "12 34 00", 6, "00 34 12");
    }

    private static void turnsOfOneRowAndOneColumn() {
        check.sentence("Promise 31: TURNS of the narrowest grounds");
        turned(5, 1, "01234", 2, "43210");
        turned(5, 1, "01234", 4, "43210");
        turned(5, 1, "01234", 6, "01234");
        turned(1, 5, "0 1 2 3 4", 2, "4 3 2 1 0");
        turned(1, 5, "0 1 2 3 4", 4, "0 1 2 3 4");
        turned(1, 5, "0 1 2 3 4", 6, "4 3 2 1 0");
        for (int t = 0; t < 8; t++) {
            turned(1, 1, "3", t, "3");
            check.due("turn of one cell", Check.full(1, 1).turn(0, t), 0);
        }
    }

    private static void turnAnswersCellsOtherwise() {
        check.sentence("Promise 31: how many CELLS are otherwise then");
        for (int t = 0; t < 8; t++) {
            check.due("turn(0, " + t + ") of a full one", Check.full(5, 5).turn(0, t), 0);
            check.due("turn(3, " + t + ") of an empty one", Check.on(5, 5).turn(3, t), 0);
        }
        check.due("none by turn 0", Check.with(3, 3, "123 401 234").turn(0, 0), 0);
        check.due("a cube in a corner moves", Check.with(5, 5, "4").turn(0, 2), 2);
        check.due("a cube in the middle stays", Check.with(3, 3, "000 030 000").turn(0, 1), 0);
        check.due("all but the middle", Check.with(3, 3, "123 401 234").turn(0, 1), 8);
        check.due("two equal ones change places", Check.with(2, 1, "33").turn(0, 4), 0);
        check.due("two others do", Check.with(2, 1, "34").turn(0, 4), 2);
        CubeHeaps x = Check.busy(3, 3);
        x.turn(0, 1);
        check.due("other slots stay", x.cubes(1), 36);
        check.slotIs(x, 2, "203 142 031");
    }

    private static void turnRefusesState() {
        check.sentence("Promise 31: STATE: W and H would change");
        for (int t = 1; t < 8; t += 2) {
            int odd = t;
            check.leaves("turn(0, " + t + ") on 3 by 2", () -> Check.busy(3, 2), x -> x.turn(0, odd), STATE);
            check.leaves("turn(3, " + t + ") on 2 by 3", () -> Check.busy(2, 3), x -> x.turn(3, odd), STATE);
            check.leaves("turn(0, " + t + ") on 5 by 1", () -> Check.busy(5, 1), x -> x.turn(0, odd), STATE);
        }
        for (int w = 1; w <= 5; w++) {
            for (int h = 1; h <= 5; h++) {
                CubeHeaps x = Check.full(w, h);
                for (int t = 0; t < 8; t++) {
                    int due = t % 2 == 1 && w != h ? STATE : 0;
                    check.due("turn(0, " + t + ") on " + w + " by " + h, x.turn(0, t), due);
                }
            }
        }
    }

    private static void turnRefusesOutside() {
        check.sentence("Promise 31: OUTSIDE: t; ahead of STATE");
        for (int t : new int[] {-1, 8, 9, -8, NONE, MAX, MIN}) {
            check.leaves("turn(0, " + t + ") on 3 by 3", () -> Check.busy(3, 3), x -> x.turn(0, t), OUTSIDE);
            check.leaves("turn(0, " + t + ") on 3 by 2", () -> Check.busy(3, 2), x -> x.turn(0, t), OUTSIDE);
        }
    }

    private static void turnRefusesUnknownFirst() {
        check.sentence("Promise 31: UNKNOWN; ahead of OUTSIDE and STATE");
        for (int slot : NO_SLOTS) {
            check.leaves("turn(" + slot + ", 2)", () -> Check.busy(3, 2), x -> x.turn(slot, 2), UNKNOWN);
            check.leaves("turn(" + slot + ", 8)", () -> Check.busy(3, 2), x -> x.turn(slot, 8), UNKNOWN);
            check.leaves("turn(" + slot + ", 1)", () -> Check.busy(3, 2), x -> x.turn(slot, 1), UNKNOWN);
        }
    }

    private static void alikeByATurn() {
        check.sentence("Promise 32: TWO HEAPS ARE ALIKE, if one becomes the other by a TURN: 1, 0");
        String[] turns = {"12 34", "31 42", "43 21", "24 13", "21 43", "42 31", "34 12", "13 24"};
        for (String turn : turns) {
            check.due("12 34 and " + turn, two(2, 2, "12 34", turn).alike(0, 1), 1);
            check.due(turn + " and 12 34", two(2, 2, turn, "12 34").alike(0, 1), 1);
        }
        check.due("the same heights, no turn", two(2, 2, "12 34", "12 43").alike(0, 1), 0);
        check.due("the same heights, no turn", two(2, 2, "12 34", "14 23").alike(0, 1), 0);
        check.due("one cube more", two(2, 2, "12 33", "12 34").alike(0, 1), 0);
        check.due("moved along", two(3, 3, "100 000 000", "010 000 000").alike(0, 1), 0);
        CubeHeaps x = Check.full(5, 5);
        check.due("a full one and an empty one", x.alike(0, 1), 0);
        check.due("an empty one and a full one", x.alike(3, 0), 0);
        check.due("two empty ones", x.alike(2, 3), 1);
        check.due("a full one and itself", x.alike(0, 0), 1);
        check.due("one cell, other heights", two(1, 1, "3", "4").alike(0, 1), 0);
        check.leaves("alike(0, 0)", () -> Check.busy(3, 2), b -> b.alike(0, 0), 1);
        check.leaves("alike(0, 2)", () -> Check.busy(3, 2), b -> b.alike(0, 2), 0);
    }

    private static void alikeByTurnsThatLeaveWAndH() {
        check.sentence("ALIKE by a TURN (of those that leave W and H as they are)");
        check.due("a half", two(3, 2, "123 400", "004 321").alike(0, 1), 1);
        check.due("mirrored", two(3, 2, "123 400", "321 004").alike(0, 1), 1);
        check.due("mirrored and a half", two(3, 2, "123 400", "400 123").alike(0, 1), 1);
        check.due("no quarter on 5 by 1", two(5, 1, "10000", "00100").alike(0, 1), 0);
        check.due("both ends of 5 by 1", two(5, 1, "10000", "00001").alike(0, 1), 1);
        check.due("both ends of 1 by 5", two(1, 5, "1 0 0 0 0", "0 0 0 0 1").alike(0, 1), 1);
        check.due("a quarter of a part of 3 by 2 is none", two(3, 2, "110 000", "100 100").alike(0, 1), 0);
        check.due("a quarter of 3 by 3 is one", two(3, 3, "110 000 000", "100 100 000").alike(0, 1), 1);
    }

    private static void alikeRefuses() {
        check.sentence("Promise 32: UNKNOWN");
        for (int slot : NO_SLOTS) {
            check.leaves("alike(" + slot + ", 0)", () -> Check.busy(3, 2), x -> x.alike(slot, 0), UNKNOWN);
            check.leaves("alike(0, " + slot + ")", () -> Check.busy(3, 2), x -> x.alike(0, slot), UNKNOWN);
            check.leaves("alike(" + slot + ", " + slot + ")", () -> Check.busy(3, 2), x -> x.alike(slot, slot), UNKNOWN);
        }
    }

    private static void sameCountsTurns() {
        check.sentence("Promise 33: How many TURNS leave a SLOT as it is");
        for (int w = 1; w <= 5; w++) {
            for (int h = 1; h <= 5; h++) {
                CubeHeaps x = Check.full(w, h);
                check.due("a full one of " + w + " by " + h, x.same(0), w == h ? 8 : 4);
                check.due("an empty one of " + w + " by " + h, x.same(3), w == h ? 8 : 4);
            }
        }
        check.due("turn 0 alone", Check.with(2, 2, "12 34").same(0), 1);
        check.due("a half and mirrors over both corners", Check.with(2, 2, "12 21").same(0), 4);
        check.due("a half alone", Check.with(3, 2, "123 321").same(0), 2);
        check.due("a mirror", Check.with(2, 2, "11 22").same(0), 2);
        check.due("a mirror over a corner", Check.with(2, 2, "12 23").same(0), 2);
        check.due("quarters, no mirror", Check.with(4, 4, "0120 2001 1002 0210").same(0), 4);
        check.due("turn 0 alone of 3 by 2", Check.with(3, 2, "123 400").same(0), 1);
        check.due("one row", Check.with(5, 1, "01234").same(0), 2);
        check.due("one column", Check.with(1, 5, "0 1 2 3 4").same(0), 2);
        check.leaves("same(1)", () -> Check.busy(3, 2), x -> x.same(1), 4);
    }

    private static void sameRefuses() {
        check.sentence("Promise 33: UNKNOWN");
        for (int slot : NO_SLOTS) {
            check.leaves("same(" + slot + ")", () -> Check.busy(3, 2), x -> x.same(slot), UNKNOWN);
        }
    }

    private static void leastIsTheFirstInOrder() {
        check.sentence("Promise 34: A SLOT becomes its LEAST: of all it becomes so the first in order");
        String[] turns = {"12 34", "31 42", "43 21", "24 13", "21 43", "42 31", "34 12", "13 24"};
        for (String turn : turns) {
            CubeHeaps x = Check.with(2, 2, turn);
            x.least(0);
            check.slotIs(x, 0, "12 34");
        }
        CubeHeaps oblong = Check.with(3, 2, "123 400");
        check.due("least(0) of 3 by 2", oblong.least(0), 2);
        check.slotIs(oblong, 0, "004 321");
        CubeHeaps quarter = Check.with(3, 3, "001 000 001");
        check.due("least by a quarter", quarter.least(0), 1);
        check.slotIs(quarter, 0, "000 000 101");
        CubeHeaps row = Check.with(5, 1, "43210");
        check.due("least(0) of one row", row.least(0), 2);
        check.slotIs(row, 0, "01234");
        CubeHeaps column = Check.with(1, 5, "1 0 0 0 0");
        check.due("least(0) of one column", column.least(0), 2);
        check.slotIs(column, 0, "0 0 0 0 1");
        CubeHeaps x = Check.busy(3, 3);
        x.least(0);
        check.due("other slots stay", x.cubes(1), 36);
        check.slotIs(x, 2, "203 142 031");
    }

    private static void leastIsTheLeastTurn() {
        check.sentence("Promise 34: the TURN, the least that does it");
        int[] due = {0, 3, 2, 1, 4, 5, 6, 7};
        String[] turns = {"12 34", "31 42", "43 21", "24 13", "21 43", "42 31", "34 12", "13 24"};
        for (int t = 0; t < 8; t++) {
            CubeHeaps x = Check.with(2, 2, turns[t]);
            check.due("least(0) of " + turns[t], x.least(0), due[t]);
            check.due("least(0) of its least", x.least(0), 0);
        }
        CubeHeaps x = Check.full(5, 5);
        check.due("a full one: all do it", x.least(0), 0);
        check.due("it stays full", x.cubes(0), 100);
        check.due("an empty one: all do it", x.least(3), 0);
        check.due("one cell", Check.full(1, 1).least(0), 0);
        check.due("a half and a mirror do it", Check.with(3, 1, "100").least(0), 2);
        check.due("a half and another mirror do it", Check.with(1, 3, "1 0 0").least(0), 2);
        check.due("a quarter and a mirror do it", Check.with(2, 2, "01 01").least(0), 1);
        check.due("three quarters and a mirror do it", Check.with(2, 2, "10 10").least(0), 3);
        check.leaves("least(1)", () -> Check.busy(3, 2), b -> b.least(1), 0);
    }

    private static void leastRefuses() {
        check.sentence("Promise 34: UNKNOWN");
        for (int slot : NO_SLOTS) {
            check.leaves("least(" + slot + ")", () -> Check.busy(3, 3), x -> x.least(slot), UNKNOWN);
        }
    }

    private static void aboutAtFirstAndAtMost() {
        check.sentence("Promise 35: W (what = 0), H (1), CELLS (4)");
        for (int w = 1; w <= 5; w++) {
            for (int h = 1; h <= 5; h++) {
                CubeHeaps x = Check.on(w, h);
                check.due("about(0)", x.about(0), w);
                check.due("about(1)", x.about(1), h);
                check.due("about(4)", x.about(4), w * h);
            }
        }
        check.leaves("about(4)", () -> Check.busy(3, 2), x -> x.about(4), 6);
    }

    private static void aboutCountsWhatIsTold() {
        check.sentence("Promise 35: how many FRONTS and SIDES are TOLD (2), TOPS (3)");
        CubeHeaps x = Check.on(5, 5);
        check.due("about(2), none", x.about(2), 0);
        check.due("about(3), none", x.about(3), 0);
        for (int line = 0; line < 5; line++) {
            x.tell(true, line, 0);
            check.due("about(2), a FRONT of 0 is told", x.about(2), 2 * line + 1);
            x.tell(false, line, 4);
            check.due("about(2), a SIDE too", x.about(2), 2 * line + 2);
        }
        for (int cell = 0; cell < 25; cell++) {
            x.tellTop(cell, cell % 2);
            check.due("about(3)", x.about(3), cell + 1);
        }
        check.due("about(2), all", x.about(2), 10);
        x.tell(true, 4, NONE);
        x.tellTop(24, NONE);
        check.due("about(2), one less", x.about(2), 9);
        check.due("about(3), one less", x.about(3), 24);
        x.tellSum(true, 0, 7);
        check.due("about(2), SUMS do not count", x.about(2), 9);
        x.ground(1, 1);
        check.due("about(2), none", x.about(2), 0);
        check.due("about(3), none", x.about(3), 0);
    }

    private static void aboutRefuses() {
        check.sentence("Promise 35: OUTSIDE");
        for (int what : new int[] {-1, 5, 6, NONE, MAX, MIN}) {
            check.leaves("about(" + what + ")", () -> Check.busy(3, 2), x -> x.about(what), OUTSIDE);
        }
    }
}
