/** What is seen of a heap, and promises 7 to 14, sentence by sentence, at their bounds. */
public final class EdgeLookedAtTest {
    private static final int NONE = CubeHeaps.NONE, UNKNOWN = CubeHeaps.UNKNOWN, OUTSIDE = CubeHeaps.OUTSIDE;
    private static final int MAX = Integer.MAX_VALUE, MIN = Integer.MIN_VALUE;
    private static final int[] NO_SLOTS = {-1, 4, NONE, MAX, MIN};
    private static final Check check = new Check("EdgeLookedAtTest");

    public static void main(String[] args) {
        frontIsTheGreatest();
        frontRefuses();
        sideIsTheGreatest();
        sideRefuses();
        sumCountsALine();
        sumRefuses();
        directionsLookFromFourSides();
        seenIsHigherThanAllNearer();
        seenOfEmptyAndFull();
        seenRefusesInOrder();
        skinOfEmptyAndFull();
        skinTouchesNoCubeAndNoGround();
        skinRefuses();
        layerHasHeightsOfAtLeast();
        partsHangTogetherBySides();
        layersAreOneToFour();
        layerRefusesUnknownFirst();
        waterRunsOffAtTheEdge();
        waterStandsAsHighAsTheLowestWay();
        waterGoesBySidesAlone();
        waterOfEmptyAndFull();
        waterRefuses();
        levelIsTheHeightWhereNoneStays();
        levelStandsOnACell();
        levelRefuses();
        check.end();
    }

    private static void frontIsTheGreatest() {
        check.sentence("Promise 7: FRONT of a COLUMN: the greatest HEIGHT in it");
        CubeHeaps x = Check.with(5, 5, "40000 00000 00300 02000 10001");
        int[] due = {4, 2, 3, 0, 1};
        for (int column = 0; column < 5; column++) check.due("front(0, " + column + ")", x.front(0, column), due[column]);
        for (int column = 0; column < 5; column++) check.due("front of an empty heap", x.front(1, column), 0);
        CubeHeaps full = Check.full(5, 5);
        for (int column = 0; column < 5; column++) check.due("front of a full heap", full.front(0, column), 4);
        check.due("front of one cell", Check.with(1, 1, "3").front(0, 0), 3);
        check.due("front of one column", Check.with(1, 5, "0 1 0 2 4").front(0, 0), 4);
        check.due("front of the last of one row", Check.with(5, 1, "00012").front(0, 4), 2);
        check.due("front beside it", Check.with(5, 1, "00012").front(0, 3), 1);
        check.leaves("front(0, 1)", () -> Check.busy(3, 2), b -> b.front(0, 1), 4);
    }

    private static void frontRefuses() {
        check.sentence("Promise 7: UNKNOWN: slot, column");
        for (int slot : NO_SLOTS) {
            check.leaves("front(" + slot + ", 0)", () -> Check.busy(2, 4), x -> x.front(slot, 0), UNKNOWN);
        }
        for (int column : new int[] {-1, 2, 3, 4, MAX, MIN}) {
            check.leaves("front(0, " + column + ") of 2 by 4", () -> Check.busy(2, 4), x -> x.front(0, column), UNKNOWN);
        }
        check.due("front(0, 3) of 4 by 2", Check.on(4, 2).front(0, 3), 0);
        check.due("front(0, 5) of 5 by 5", Check.on(5, 5).front(0, 5), UNKNOWN);
        check.due("front(0, 1) of one cell", Check.on(1, 1).front(0, 1), UNKNOWN);
        check.due("front(4, 9), both", Check.on(1, 1).front(4, 9), UNKNOWN);
    }

    private static void sideIsTheGreatest() {
        check.sentence("Promise 8: SIDE of a ROW: the greatest HEIGHT in it");
        CubeHeaps x = Check.with(5, 5, "40000 00002 00300 00000 10001");
        int[] due = {4, 2, 3, 0, 1};
        for (int row = 0; row < 5; row++) check.due("side(0, " + row + ")", x.side(0, row), due[row]);
        for (int row = 0; row < 5; row++) check.due("side of an empty heap", x.side(1, row), 0);
        CubeHeaps full = Check.full(5, 5);
        for (int row = 0; row < 5; row++) check.due("side of a full heap", full.side(0, row), 4);
        check.due("side of one cell", Check.with(1, 1, "3").side(0, 0), 3);
        check.due("side of one row", Check.with(5, 1, "01024").side(0, 0), 4);
        check.due("side of the last of one column", Check.with(1, 5, "0 0 0 1 2").side(0, 4), 2);
        check.due("side beside it", Check.with(1, 5, "0 0 0 1 2").side(0, 3), 1);
        check.leaves("side(0, 1)", () -> Check.busy(3, 2), b -> b.side(0, 1), 4);
    }

    private static void sideRefuses() {
        check.sentence("Promise 8: UNKNOWN");
        for (int slot : NO_SLOTS) {
            check.leaves("side(" + slot + ", 0)", () -> Check.busy(4, 2), x -> x.side(slot, 0), UNKNOWN);
        }
        for (int row : new int[] {-1, 2, 3, 4, MAX, MIN}) {
            check.leaves("side(0, " + row + ") of 4 by 2", () -> Check.busy(4, 2), x -> x.side(0, row), UNKNOWN);
        }
        check.due("side(0, 3) of 2 by 4", Check.on(2, 4).side(0, 3), 0);
        check.due("side(0, 5) of 5 by 5", Check.on(5, 5).side(0, 5), UNKNOWN);
        check.due("side(0, 1) of one cell", Check.on(1, 1).side(0, 1), UNKNOWN);
    }

    private static void sumCountsALine() {
        check.sentence("Promise 9: How many cubes stand in a COLUMN (column), a ROW");
        for (int w = 1; w <= 5; w++) {
            for (int h = 1; h <= 5; h++) {
                CubeHeaps x = Check.full(w, h);
                check.due("a full column of " + w + " by " + h, x.sum(0, true, w - 1), 4 * h);
                check.due("a full row of " + w + " by " + h, x.sum(0, false, h - 1), 4 * w);
                check.due("an empty column", x.sum(1, true, 0), 0);
                check.due("an empty row", x.sum(1, false, 0), 0);
            }
        }
        CubeHeaps x = Check.with(3, 2, "124 031");
        check.due("sum(0, true, 0)", x.sum(0, true, 0), 1);
        check.due("sum(0, true, 2)", x.sum(0, true, 2), 5);
        check.due("sum(0, false, 0)", x.sum(0, false, 0), 7);
        check.due("sum(0, false, 1)", x.sum(0, false, 1), 4);
        check.leaves("sum(1, true, 0)", () -> Check.busy(3, 2), b -> b.sum(1, true, 0), 8);
    }

    private static void sumRefuses() {
        check.sentence("Promise 9: UNKNOWN: slot, line");
        for (int slot : NO_SLOTS) {
            check.leaves("sum(" + slot + ", true, 0)", () -> Check.busy(2, 4), x -> x.sum(slot, true, 0), UNKNOWN);
            check.leaves("sum(" + slot + ", false, 9)", () -> Check.busy(2, 4), x -> x.sum(slot, false, 9), UNKNOWN);
        }
        CubeHeaps x = Check.busy(2, 4);
        for (int line = -1; line <= 6; line++) {
            check.due("sum(1, true, " + line + ") of 2 by 4", x.sum(1, true, line), line >= 0 && line < 2 ? 16 : UNKNOWN);
            check.due("sum(1, false, " + line + ") of 2 by 4", x.sum(1, false, line), line >= 0 && line < 4 ? 8 : UNKNOWN);
        }
        for (int line : new int[] {MAX, MIN}) {
            check.due("sum(1, true, " + line + ")", x.sum(1, true, line), UNKNOWN);
            check.due("sum(1, false, " + line + ")", x.sum(1, false, line), UNKNOWN);
        }
        check.unchanged("sum that is refused", x, Check.busy(2, 4));
    }

    private static void directionsLookFromFourSides() {
        check.sentence("FROM a DIRECTION 0 to 3 one looks along a ROW from x 0 on, a COLUMN from y 0 on, and back");
        CubeHeaps row = Check.with(4, 1, "1234");
        check.due("direction 0", row.seen(0, 0, 0), 4);
        check.due("direction 2", row.seen(0, 2, 0), 1);
        for (int column = 0; column < 4; column++) {
            check.due("direction 1 along one cell", row.seen(0, 1, column), 1);
            check.due("direction 3 along one cell", row.seen(0, 3, column), 1);
        }
        CubeHeaps column = Check.with(1, 4, "1 2 3 4");
        check.due("direction 1", column.seen(0, 1, 0), 4);
        check.due("direction 3", column.seen(0, 3, 0), 1);
        check.due("direction 0 along one cell", column.seen(0, 0, 3), 1);
        check.due("direction 2 along one cell", column.seen(0, 2, 3), 1);
        CubeHeaps square = Check.with(3, 3, "120 030 400");
        int[][] due = {{2, 1, 1}, {2, 2, 0}, {1, 1, 1}, {1, 1, 0}};
        for (int direction = 0; direction < 4; direction++) {
            for (int line = 0; line < 3; line++) {
                check.due("seen(0, " + direction + ", " + line + ")", square.seen(0, direction, line), due[direction][line]);
            }
        }
    }

    private static void seenIsHigherThanAllNearer() {
        check.sentence("SEEN is a tower (HEIGHT above 0) that is higher than all nearer ones");
        check.due("cells of 0 are no towers", Check.with(5, 1, "00000").seen(0, 0, 0), 0);
        check.due("a tower behind cells of 0", Check.with(5, 1, "00001").seen(0, 0, 0), 1);
        check.due("as high as a nearer one", Check.with(5, 1, "22000").seen(0, 0, 0), 1);
        check.due("as high as one that is further off", Check.with(5, 1, "20201").seen(0, 0, 0), 1);
        check.due("higher than the next, not than all", Check.with(5, 1, "31210").seen(0, 0, 0), 1);
        check.due("higher by one", Check.with(5, 1, "30400").seen(0, 0, 0), 2);
        check.due("as many as can be", Check.with(5, 1, "10234").seen(0, 0, 0), 4);
        check.due("as many from the other side", Check.with(5, 1, "44321").seen(0, 2, 0), 4);
        check.due("as many along a column", Check.with(1, 5, "1 2 2 3 4").seen(0, 1, 0), 4);
        check.due("as many along a column back", Check.with(1, 5, "4 0 3 2 1").seen(0, 3, 0), 4);
    }

    private static void seenOfEmptyAndFull() {
        check.sentence("Promise 10: How many towers are SEEN from a DIRECTION along a line");
        CubeHeaps large = Check.full(5, 5);
        CubeHeaps small = Check.full(1, 1);
        for (int direction = 0; direction < 4; direction++) {
            for (int line = 0; line < 5; line++) {
                check.due("a full heap", large.seen(0, direction, line), 1);
                check.due("an empty heap", large.seen(3, direction, line), 0);
            }
            check.due("one full cell", small.seen(0, direction, 0), 1);
            check.due("one empty cell", small.seen(1, direction, 0), 0);
        }
        check.leaves("seen(0, 0, 0)", () -> Check.busy(3, 2), x -> x.seen(0, 0, 0), 2);
    }

    private static void seenRefusesInOrder() {
        check.sentence("Promise 10: UNKNOWN: slot; OUTSIDE: direction; UNKNOWN: line");
        for (int slot : NO_SLOTS) {
            check.leaves("seen(" + slot + ", 0, 0)", () -> Check.busy(5, 2), x -> x.seen(slot, 0, 0), UNKNOWN);
            check.leaves("seen(" + slot + ", 4, 0)", () -> Check.busy(5, 2), x -> x.seen(slot, 4, 0), UNKNOWN);
        }
        for (int direction : new int[] {-1, 4, 5, NONE, MAX, MIN}) {
            check.leaves("seen(0, " + direction + ", 0)", () -> Check.busy(5, 2), x -> x.seen(0, direction, 0), OUTSIDE);
            check.leaves("seen(0, " + direction + ", 9)", () -> Check.busy(5, 2), x -> x.seen(0, direction, 9), OUTSIDE);
            check.leaves("seen(0, " + direction + ", -1)", () -> Check.busy(5, 2), x -> x.seen(0, direction, -1), OUTSIDE);
        }
        for (int direction = 0; direction < 4; direction++) {
            linesOfADirection(direction, 5, 2);
            linesOfADirection(direction, 2, 5);
        }
    }

    private static void linesOfADirection(int direction, int w, int h) {
        int lines = direction % 2 == 0 ? h : w;
        CubeHeaps x = Check.full(w, h);
        for (int line : new int[] {MIN, -1, 0, 1, 2, 4, 5, MAX}) {
            int due = line >= 0 && line < lines ? 1 : UNKNOWN;
            check.due("seen(0, " + direction + ", " + line + ") on " + w + " by " + h, x.seen(0, direction, line), due);
        }
    }

    private static void skinOfEmptyAndFull() {
        check.sentence("Promise 11: THE SKIN of heaps that are empty and full");
        for (int w = 1; w <= 5; w++) {
            for (int h = 1; h <= 5; h++) {
                CubeHeaps x = Check.full(w, h);
                check.due("a full heap of " + w + " by " + h, x.skin(0), w * h + 8 * (w + h));
                check.due("an empty heap", x.skin(1), 0);
            }
        }
        for (int height = 1; height <= 4; height++) {
            CubeHeaps x = Check.on(1, 1);
            x.set(0, 0, height);
            check.due("a tower of " + height, x.skin(0), 4 * height + 1);
        }
    }

    private static void skinTouchesNoCubeAndNoGround() {
        check.sentence("THE SKIN: all faces of cubes that touch no other cube and not the ground");
        check.due("faces at the edge count", Check.with(3, 3, "100 000 000").skin(0), 5);
        check.due("and in the middle as many", Check.with(3, 3, "000 010 000").skin(0), 5);
        check.due("two that touch by a side", Check.with(2, 1, "11").skin(0), 8);
        check.due("two over each other", Check.with(2, 1, "02").skin(0), 9);
        check.due("two that touch by an edge alone", Check.with(2, 2, "10 01").skin(0), 10);
        check.due("the last of a row and the first of the next", Check.with(2, 2, "01 10").skin(0), 10);
        check.due("a higher one beside a lower one", Check.with(2, 1, "41").skin(0), 17 + 5 - 2);
        check.due("a pit down to the ground", Check.with(3, 3, "444 404 444").skin(0), 8 + 48 + 16);
        check.due("a pit with a cube in it", Check.with(3, 3, "444 414 444").skin(0), 9 + 48 + 12);
        check.due("towers apart", Check.with(5, 5, "40404 04040 40404 04040 40404").skin(0), 13 * 17);
    }

    private static void skinRefuses() {
        check.sentence("Promise 11: UNKNOWN");
        for (int slot : NO_SLOTS) {
            check.leaves("skin(" + slot + ")", () -> Check.busy(3, 2), x -> x.skin(slot), UNKNOWN);
        }
        check.leaves("skin(1)", () -> Check.busy(3, 2), x -> x.skin(1), 6 + 40);
    }

    private static void layerHasHeightsOfAtLeast() {
        check.sentence("Promise 12, LAYER k: CELLS of HEIGHT k at least");
        CubeHeaps x = Check.with(5, 1, "01234");
        for (int layer = 1; layer <= 4; layer++) {
            check.due("layer(0, " + layer + ", false)", x.layer(0, layer, false), 5 - layer);
            check.due("layer(0, " + layer + ", true)", x.layer(0, layer, true), 1);
        }
        CubeHeaps full = Check.full(5, 5);
        CubeHeaps one = Check.full(1, 1);
        for (int layer = 1; layer <= 4; layer++) {
            check.due("cells of a full heap", full.layer(0, layer, false), 25);
            check.due("parts of a full heap", full.layer(0, layer, true), 1);
            check.due("cells of an empty heap", full.layer(3, layer, false), 0);
            check.due("parts of an empty heap", full.layer(3, layer, true), 0);
            check.due("cells of one cell", one.layer(0, layer, false), 1);
            check.due("parts of one cell", one.layer(0, layer, true), 1);
        }
        check.leaves("layer(1, 4, true)", () -> Check.busy(3, 2), b -> b.layer(1, 4, true), 1);
        check.leaves("layer(1, 4, false)", () -> Check.busy(3, 2), b -> b.layer(1, 4, false), 6);
    }

    private static void partsHangTogetherBySides() {
        check.sentence("its PARTS: those that hang together by sides of CELLS");
        check.due("side by side along x", Check.with(2, 2, "11 00").layer(0, 1, true), 1);
        check.due("side by side along y", Check.with(2, 2, "10 10").layer(0, 1, true), 1);
        check.due("by a corner", Check.with(2, 2, "10 01").layer(0, 1, true), 2);
        check.due("by the other corner", Check.with(2, 2, "01 10").layer(0, 1, true), 2);
        check.due("the end of a row and the start of the next", Check.with(5, 2, "00001 10000").layer(0, 1, true), 2);
        check.due("both ends of a row", Check.with(5, 1, "10001").layer(0, 1, true), 2);
        check.due("both ends of a column", Check.with(1, 5, "1 0 0 0 1").layer(0, 1, true), 2);
        check.due("they hang together below this layer", Check.with(3, 1, "212").layer(0, 2, true), 2);
        check.due("a ring", Check.with(3, 3, "111 101 111").layer(0, 1, true), 1);
        check.due("a ring and what is in it", Check.with(5, 5, "11111 10001 10101 10001 11111").layer(0, 1, true), 2);
        check.due("as many as can be", Check.with(5, 5, "40404 04040 40404 04040 40404").layer(0, 4, true), 13);
        check.due("one that winds", Check.with(5, 5, "11111 10000 11111 00001 11111").layer(0, 1, true), 1);
        check.due("one that winds back", Check.with(5, 5, "10111 10101 10101 10101 11101").layer(0, 1, true), 1);
    }

    private static void layersAreOneToFour() {
        check.sentence("Promise 12: OUTSIDE: layer; LAYER k (1 to 4)");
        for (int layer : new int[] {0, 5, -1, NONE, MAX, MIN}) {
            check.leaves("layer(1, " + layer + ", false)", () -> Check.busy(3, 2), x -> x.layer(1, layer, false), OUTSIDE);
            check.leaves("layer(1, " + layer + ", true)", () -> Check.busy(3, 2), x -> x.layer(1, layer, true), OUTSIDE);
        }
    }

    private static void layerRefusesUnknownFirst() {
        check.sentence("Promise 12: UNKNOWN; ahead of OUTSIDE");
        for (int slot : NO_SLOTS) {
            check.leaves("layer(" + slot + ", 1, true)", () -> Check.busy(3, 2), x -> x.layer(slot, 1, true), UNKNOWN);
            check.leaves("layer(" + slot + ", 0, true)", () -> Check.busy(3, 2), x -> x.layer(slot, 0, true), UNKNOWN);
            check.leaves("layer(" + slot + ", 5, false)", () -> Check.busy(3, 2), x -> x.layer(slot, 5, false), UNKNOWN);
        }
    }

    private static void waterRunsOffAtTheEdge() {
        check.sentence("WATER runs off at the edge of THE GROUND (beyond it all is 0 high)");
        check.due("a pit at the upper edge", Check.with(3, 3, "404 444 444").water(0), 0);
        check.due("a pit at the lower edge", Check.with(3, 3, "444 444 404").water(0), 0);
        check.due("a pit at the left edge", Check.with(3, 3, "444 044 444").water(0), 0);
        check.due("a pit at the right edge", Check.with(3, 3, "444 440 444").water(0), 0);
        check.due("a pit in a corner", Check.with(3, 3, "044 444 444").water(0), 0);
        check.due("a pit that is open to the edge", Check.with(3, 3, "404 404 444").water(0), 0);
        check.due("two rows keep none", Check.with(5, 2, "40404 44044").water(0), 0);
        check.due("two columns keep none", Check.with(2, 5, "40 04 44 04 40").water(0), 0);
        check.due("one row keeps none", Check.with(5, 1, "40404").water(0), 0);
    }

    private static void waterStandsAsHighAsTheLowestWay() {
        check.sentence("as high as the least that is, on some way, the greatest HEIGHT on it (its own too)");
        for (int gap = 0; gap <= 4; gap++) {
            CubeHeaps x = Check.with(3, 3, "444 404 444");
            x.set(0, 5, gap);
            check.due("a wall of " + gap, x.water(0), gap);
            check.due("level(0, 4)", x.level(0, 4), gap);
        }
        for (int own = 0; own <= 4; own++) {
            CubeHeaps x = Check.with(3, 3, "333 303 333");
            x.set(0, 4, own);
            check.due("its own height is " + own, x.level(0, 4), Math.max(3, own));
            check.due("water", x.water(0), Math.max(0, 3 - own));
        }
        check.due("the lower of two gaps", Check.with(3, 3, "434 402 444").water(0), 2);
        check.due("a lower gap behind a higher one", Check.with(5, 3, "44444 40301 44444").water(0), 4);
        check.due("a higher gap behind a lower one", Check.with(5, 3, "44444 40103 44444").water(0), 3 + 2 + 3);
        check.due("a long way", Check.with(5, 5, "44444 40004 44404 40004 41444").water(0), 7);
        check.due("no way back to a higher wall", Check.with(4, 4, "4444 4034 4004 4424").water(0), 2 + 2 + 2);
    }

    private static void waterGoesBySidesAlone() {
        check.sentence("on some way by sides of CELLS");
        check.due("it does not run over corners", Check.with(3, 3, "040 404 040").water(0), 4);
        check.due("corners of the ground do not hold it", Check.with(3, 3, "044 404 440").water(0), 4);
        check.due("two pits that touch by a corner", Check.with(4, 4, "4444 4044 4401 4444").water(0), 4 + 1);
    }

    private static void waterOfEmptyAndFull() {
        check.sentence("Promise 13: WATER: all that it stands above HEIGHTS, together");
        for (int w = 1; w <= 5; w++) {
            for (int h = 1; h <= 5; h++) {
                CubeHeaps x = Check.full(w, h);
                check.due("a full heap", x.water(0), 0);
                check.due("an empty heap", x.water(1), 0);
                for (int cell = 0; cell < w * h; cell++) {
                    boolean inner = cell % w > 0 && cell % w < w - 1 && cell / w > 0 && cell / w < h - 1;
                    if (inner) x.set(0, cell, 0);
                }
                check.due("the most on " + w + " by " + h, x.water(0), 4 * Math.max(0, w - 2) * Math.max(0, h - 2));
            }
        }
        check.due("with an island", Check.with(5, 5, "44444 40004 40204 40004 44444").water(0), 34);
        check.due("two pits together", Check.with(5, 3, "33333 30323 33333").water(0), 4);
        check.leaves("water(0)", () -> Check.with(3, 3, "444 404 444"), x -> x.water(0), 4);
    }

    private static void waterRefuses() {
        check.sentence("Promise 13: UNKNOWN");
        for (int slot : NO_SLOTS) {
            check.leaves("water(" + slot + ")", () -> Check.busy(3, 3), x -> x.water(slot), UNKNOWN);
        }
    }

    private static void levelIsTheHeightWhereNoneStays() {
        check.sentence("Promise 14: How high it stands on a CELL (the CELL's HEIGHT: none stays)");
        CubeHeaps x = Check.with(5, 5, "01234 43210 01234 43210 01234");
        for (int cell = 0; cell < 25; cell++) {
            boolean edge = cell < 5 || cell >= 20 || cell % 5 == 0 || cell % 5 == 4;
            if (edge) check.due("level(0, " + cell + ") at the edge", x.level(0, cell), x.height(0, cell));
        }
        CubeHeaps full = Check.full(5, 5);
        for (int cell = 0; cell < 25; cell++) {
            check.due("a full heap", full.level(0, cell), 4);
            check.due("an empty heap", full.level(1, cell), 0);
        }
        check.due("one cell", Check.with(1, 1, "2").level(0, 0), 2);
        check.due("an island that stands out", Check.with(3, 3, "111 131 111").level(0, 4), 3);
    }

    private static void levelStandsOnACell() {
        check.sentence("Promise 14: where it stays, as high as it stands");
        CubeHeaps x = Check.with(5, 5, "44444 40004 40204 40004 44344");
        for (int cell = 0; cell < 25; cell++) {
            boolean edge = cell < 5 || cell >= 20 || cell % 5 == 0 || cell % 5 == 4;
            int due = cell == 22 || !edge ? 3 : 4;
            check.due("level(0, " + cell + ")", x.level(0, cell), due);
        }
        check.leaves("level(0, 4)", () -> Check.with(3, 3, "444 404 424"), b -> b.level(0, 4), 2);
    }

    private static void levelRefuses() {
        check.sentence("Promise 14: UNKNOWN");
        for (int slot : NO_SLOTS) {
            check.leaves("level(" + slot + ", 0)", () -> Check.busy(3, 2), x -> x.level(slot, 0), UNKNOWN);
        }
        for (int cell : new int[] {-1, 6, 7, 24, 25, MAX, MIN}) {
            check.leaves("level(0, " + cell + ")", () -> Check.busy(3, 2), x -> x.level(0, cell), UNKNOWN);
        }
        check.due("level(0, 24) of 5 by 5", Check.on(5, 5).level(0, 24), 0);
        check.due("level(0, 25) of 5 by 5", Check.on(5, 5).level(0, 25), UNKNOWN);
        check.due("level(0, 1) of one cell", Check.on(1, 1).level(0, 1), UNKNOWN);
    }
}
