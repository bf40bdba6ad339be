/** Promises 7 to 14: front, side, sum, seen, skin, layer, water, level. */
public final class LookedAtTest {
    private static final Check check = new Check("LookedAtTest");

    public static void main(String[] args) {
        lines();
        seen();
        skin();
        layer();
        water();
        wrongInputs();
        check.end();
    }

    private static CubeHeaps with(int w, int h, String digits) {
        CubeHeaps x = new CubeHeaps();
        x.ground(w, h);
        Check.heap(x, 1, digits);
        return x;
    }

    private static void lines() {
        CubeHeaps x = with(3, 2, "102 034");
        int[] fronts = {1, 3, 4};
        int[] columns = {1, 3, 6};
        for (int column = 0; column < 3; column++) {
            check.due("front(1, " + column + ")", x.front(1, column), fronts[column]);
            check.due("sum(1, true, " + column + ")", x.sum(1, true, column), columns[column]);
            check.due("front(0, " + column + ")", x.front(0, column), 0);
        }
        check.due("side(1, 0)", x.side(1, 0), 2);
        check.due("side(1, 1)", x.side(1, 1), 4);
        check.due("sum(1, false, 0)", x.sum(1, false, 0), 3);
        check.due("sum(1, false, 1)", x.sum(1, false, 1), 7);
        check.due("front(1, 3)", x.front(1, 3), CubeHeaps.UNKNOWN);
        check.due("side(1, 2)", x.side(1, 2), CubeHeaps.UNKNOWN);
        check.due("sum(1, true, 3)", x.sum(1, true, 3), CubeHeaps.UNKNOWN);
        check.due("sum(1, false, 2)", x.sum(1, false, 2), CubeHeaps.UNKNOWN);
    }

    private static void seen() {
        CubeHeaps x = with(5, 3, "10234 22134 01010");
        check.due("seen(1, 0, 0): 1, 2, 3, 4", x.seen(1, 0, 0), 4);
        check.due("seen(1, 2, 0): 4", x.seen(1, 2, 0), 1);
        check.due("seen(1, 0, 1): 2, 3, 4, equal ones hide", x.seen(1, 0, 1), 3);
        check.due("seen(1, 0, 2): one of two equal ones", x.seen(1, 0, 2), 1);
        check.due("seen(1, 2, 2)", x.seen(1, 2, 2), 1);
        check.due("seen(1, 1, 0): 1, 2", x.seen(1, 1, 0), 2);
        check.due("seen(1, 3, 0): 2", x.seen(1, 3, 0), 1);
        check.due("seen(1, 3, 1): 1, 2", x.seen(1, 3, 1), 2);
        check.due("seen(1, 3, 4): 4", x.seen(1, 3, 4), 1);
        check.due("seen(0, 0, 0): no tower", x.seen(0, 0, 0), 0);
        check.due("seen(4, 9, 9)", x.seen(4, 9, 9), CubeHeaps.UNKNOWN);
        check.due("seen(1, 4, 9)", x.seen(1, 4, 9), CubeHeaps.OUTSIDE);
        check.due("seen(1, -1, 0)", x.seen(1, -1, 0), CubeHeaps.OUTSIDE);
        check.due("seen(1, 0, 3): rows are 0 to 2", x.seen(1, 0, 3), CubeHeaps.UNKNOWN);
        check.due("seen(1, 2, 3): rows are 0 to 2", x.seen(1, 2, 3), CubeHeaps.UNKNOWN);
        check.due("seen(1, 1, 5): columns are 0 to 4", x.seen(1, 1, 5), CubeHeaps.UNKNOWN);
        check.due("seen(1, 3, 5): columns are 0 to 4", x.seen(1, 3, 5), CubeHeaps.UNKNOWN);
        check.due("seen(1, 3, -1)", x.seen(1, 3, -1), CubeHeaps.UNKNOWN);
    }

    private static void skin() {
        check.due("skin of none", with(2, 2, "00 00").skin(1), 0);
        check.due("skin of one cube", with(1, 1, "1").skin(1), 5);
        check.due("skin of a tower", with(1, 1, "4").skin(1), 17);
        check.due("skin of two towers side by side", with(2, 1, "31").skin(1), 13 + 5 - 2);
        check.due("skin of towers over a corner", with(2, 2, "20 02").skin(1), 18);
        check.due("skin of a ring, its inside too", with(3, 3, "111 101 111").skin(1), 8 + 12 + 4);
    }

    private static void layer() {
        CubeHeaps x = with(4, 3, "4012 0200 3301");
        int[] cells = {7, 5, 3, 1};
        int[] parts = {4, 3, 2, 1};
        for (int layer = 1; layer <= 4; layer++) {
            check.due("layer(1, " + layer + ", false)", x.layer(1, layer, false), cells[layer - 1]);
            check.due("layer(1, " + layer + ", true)", x.layer(1, layer, true), parts[layer - 1]);
            check.due("layer(0, " + layer + ", true)", x.layer(0, layer, true), 0);
        }
        check.due("parts of a winding layer", with(5, 5, "11111 00001 11111 10000 11111").layer(1, 1, true), 1);
        check.due("parts do not hang together over the edge", with(3, 2, "001 100").layer(1, 1, true), 2);
        check.due("parts of a chessboard", with(5, 5, "10101 01010 10101 01010 10101").layer(1, 1, true), 13);
        check.due("layer(4, 0, true)", x.layer(4, 0, true), CubeHeaps.UNKNOWN);
        check.due("layer(1, 0, false)", x.layer(1, 0, false), CubeHeaps.OUTSIDE);
        check.due("layer(1, 5, false)", x.layer(1, 5, false), CubeHeaps.OUTSIDE);
        check.due("layer(1, -1, true)", x.layer(1, -1, true), CubeHeaps.OUTSIDE);
    }

    private static void water() {
        check.due("water in a pit", with(3, 3, "444 404 444").water(1), 4);
        check.due("water in a pit with a low wall", with(3, 3, "444 402 444").water(1), 2);
        check.due("corners do not let it out", with(3, 3, "030 303 030").water(1), 3);
        check.due("none stays on a plain", with(5, 5, "44444 44444 44444 44444 44444").water(1), 0);
        check.due("none stays at the edge", with(3, 2, "404 444").water(1), 0);
        CubeHeaps way = with(5, 5, "44444 40004 44404 40004 42444");
        check.due("it runs off on a long way", way.water(1), 14);
        check.due("level(1, 6) at the far end of the way", way.level(1, 6), 2);
        check.due("level(1, 21) where it runs off", way.level(1, 21), 2);
        check.due("level(1, 0) on a wall", way.level(1, 0), 4);
        CubeHeaps steps = with(5, 3, "44344 41302 44344");
        check.due("level in the inner pit", steps.level(1, 6), 3);
        check.due("level in the outer pit", steps.level(1, 8), 2);
        check.due("both pits", steps.water(1), 4);
        check.due("level(0, 7) on an empty ground", steps.level(0, 7), 0);
    }

    private static void wrongInputs() {
        CubeHeaps x = with(3, 2, "102 034");
        String was = Check.state(x);
        for (int slot : new int[] {-1, 4, Integer.MAX_VALUE, Integer.MIN_VALUE}) {
            check.due("front", x.front(slot, 0), CubeHeaps.UNKNOWN);
            check.due("side", x.side(slot, 0), CubeHeaps.UNKNOWN);
            check.due("sum", x.sum(slot, true, 0), CubeHeaps.UNKNOWN);
            check.due("seen", x.seen(slot, 0, 0), CubeHeaps.UNKNOWN);
            check.due("skin", x.skin(slot), CubeHeaps.UNKNOWN);
            check.due("layer", x.layer(slot, 1, false), CubeHeaps.UNKNOWN);
            check.due("water", x.water(slot), CubeHeaps.UNKNOWN);
            check.due("level", x.level(slot, 0), CubeHeaps.UNKNOWN);
        }
        for (int line : new int[] {-1, 5, Integer.MAX_VALUE, Integer.MIN_VALUE}) {
            check.due("front", x.front(1, line), CubeHeaps.UNKNOWN);
            check.due("side", x.side(1, line), CubeHeaps.UNKNOWN);
            check.due("sum", x.sum(1, true, line), CubeHeaps.UNKNOWN);
            check.due("sum", x.sum(1, false, line), CubeHeaps.UNKNOWN);
            check.due("level", x.level(1, line == 5 ? 6 : line), CubeHeaps.UNKNOWN);
        }
        check.holds("looking changes nothing", Check.state(x).equals(was));
    }
}
