/** Promises 30 to 35: carry, turn, alike, same, least, about. */
public final class CarriedTurnedTest {
    private static final int NONE = CubeHeaps.NONE, UNKNOWN = CubeHeaps.UNKNOWN;
    private static final int OUTSIDE = CubeHeaps.OUTSIDE, STATE = CubeHeaps.STATE;
    private static final Check check = new Check("CarriedTurnedTest");

    public static void main(String[] args) {
        carry();
        turnSquare();
        turnOblong();
        alike();
        same();
        least();
        about();
        check.end();
    }

    private static CubeHeaps with(int w, int h, String zero, String one) {
        CubeHeaps x = new CubeHeaps();
        x.ground(w, h);
        Check.heap(x, 0, zero);
        Check.heap(x, 1, one);
        return x;
    }

    private static void carry() {
        CubeHeaps x = with(3, 3, "400 000 000", "000 000 004");
        check.due("carry(0, 1), along x and y", x.carry(0, 1), 16);
        check.due("carry(1, 0)", x.carry(1, 0), 16);
        check.due("carry(0, 0)", x.carry(0, 0), 0);
        check.due("carry(2, 3), nothing to carry", x.carry(2, 3), 0);
        check.due("carry(0, 2), not as many", x.carry(0, 2), NONE);
        check.due("carry(2, 0), not as many", x.carry(2, 0), NONE);
        check.due("carry(0, 4)", x.carry(0, 4), UNKNOWN);
        check.due("carry(-1, 0)", x.carry(-1, 0), UNKNOWN);
        check.due("carry(4, 2)", x.carry(4, 2), UNKNOWN);
        check.holds("carry changes nothing", Check.heights(x, 0).equals("400 000 000"));
        check.due("a row moved by one", with(5, 1, "11110", "01111").carry(0, 1), 4);
        check.due("the nearest first would be dear", with(5, 1, "01010", "00101").carry(0, 1), 2);
        check.due("two ways cross", with(3, 2, "101 020", "020 101").carry(0, 1), 4);
        check.due("half of the ground to the other half",
            with(5, 5, "44444 44444 00000 00000 00000", "00000 00000 00000 44444 44444").carry(0, 1), 120);
        carryTakenBack();
    }

    /** Heaps where a carrying that seemed short at first must be taken back to get the least one. */
    private static void carryTakenBack() {
        check.due("taken back, 4 by 3",
            with(4, 3, "3030 1422 2111", "1403 0040 0143").carry(0, 1), 18);
        check.due("taken back, 3 by 5",
            with(3, 5, "200 103 310 004 000", "002 100 022 041 200").carry(0, 1), 17);
        check.due("taken back, 5 by 4",
            with(5, 4, "14021 00032 04242 30222", "12040 20024 20043 12214").carry(0, 1), 20);
        check.due("taken back, 5 by 5",
            with(5, 5, "32020 00002 00020 00003 30040", "00200 30103 41000 30220 00000").carry(0, 1), 36);
    }

    private static void turnSquare() {
        String[] turned = {"123 400 000", "041 002 003", "000 004 321", "300 200 140",
            "321 004 000", "003 002 041", "000 400 123", "140 200 300"};
        for (int t = 0; t < 8; t++) {
            CubeHeaps x = with(3, 3, "123 400 000", "123 400 000");
            int got = x.turn(0, t);
            int differ = x.copy(0, 1);
            check.due("turn(0, " + t + ")", got, differ);
            check.holds("turn " + t + " is " + turned[t] + ", it is " + Check.heights(x, 0),
                Check.heights(x, 0).equals(turned[t]));
        }
        check.due("turn(0, 0)", with(3, 3, "123 400 000", "").turn(0, 0), 0);
        check.due("turn(0, 4)", with(3, 3, "123 400 000", "").turn(0, 4), 4);
    }

    private static void turnOblong() {
        String[] turned = {"123 400", "", "004 321", "", "321 004", "", "400 123", ""};
        for (int t = 0; t < 8; t++) {
            CubeHeaps x = with(3, 2, "123 400", "123 400");
            int got = x.turn(0, t);
            if (turned[t].isEmpty()) {
                check.due("turn(0, " + t + "), W and H would change", got, STATE);
                check.due("copy, nothing has changed", x.copy(0, 1), 0);
            } else {
                check.due("turn(0, " + t + ")", got, x.copy(0, 1));
                check.holds("turn " + t + " of 3 by 2", Check.heights(x, 0).equals(turned[t]));
            }
        }
        CubeHeaps x = with(3, 2, "123 400", "");
        check.due("turn(4, 9)", x.turn(4, 9), UNKNOWN);
        check.due("turn(-1, 0)", x.turn(-1, 0), UNKNOWN);
        check.due("turn(0, 8)", x.turn(0, 8), OUTSIDE);
        check.due("turn(0, -1)", x.turn(0, -1), OUTSIDE);
        check.due("turn(0, 9), outside comes first", x.turn(0, 9), OUTSIDE);
    }

    private static void alike() {
        check.due("alike, a quarter", with(3, 3, "123 400 000", "041 002 003").alike(0, 1), 1);
        check.due("alike, mirrored", with(3, 3, "123 400 000", "140 200 300").alike(0, 1), 1);
        check.due("alike, not", with(3, 3, "123 400 000", "123 040 000").alike(0, 1), 0);
        check.due("alike, oblong and mirrored", with(3, 2, "123 400", "400 123").alike(0, 1), 1);
        check.due("alike, oblong, not by columns", with(3, 2, "120 000", "000 210").alike(0, 1), 0);
        CubeHeaps x = with(2, 2, "12 00", "00 00");
        check.due("alike(0, 0)", x.alike(0, 0), 1);
        check.due("alike(2, 3)", x.alike(2, 3), 1);
        check.due("alike(4, 0)", x.alike(4, 0), UNKNOWN);
        check.due("alike(0, 4)", x.alike(0, 4), UNKNOWN);
        check.due("alike(-1, 0)", x.alike(-1, 0), UNKNOWN);
    }

    private static void same() {
        check.due("same, all turns", with(3, 3, "101 020 101", "").same(0), 8);
        check.due("same, one", with(3, 3, "123 400 000", "").same(0), 1);
        check.due("same, a mirror", with(3, 3, "121 000 000", "").same(0), 2);
        check.due("same, quarters alone", with(4, 4, "0120 2001 1002 0210", "").same(0), 4);
        check.due("same, oblong: turns that leave W and H", with(3, 2, "000 000", "").same(0), 4);
        check.due("same, one row: two turns do nothing", with(3, 1, "120", "").same(0), 2);
        check.due("same, one cell", with(1, 1, "3", "").same(0), 8);
        CubeHeaps x = new CubeHeaps();
        check.due("same(4)", x.same(4), UNKNOWN);
        check.due("same(-1)", x.same(-1), UNKNOWN);
    }

    private static void least() {
        CubeHeaps x = with(3, 3, "123 400 000", "000 000 000");
        check.due("least(0)", x.least(0), 2);
        check.holds("slot 0 is its least", Check.heights(x, 0).equals("000 004 321"));
        check.due("least(0) again", x.least(0), 0);
        check.due("least(1), all turns do it", x.least(1), 0);
        check.due("least, mirrored", with(3, 3, "123 000 000", "").least(0), 6);
        check.due("least, two turns do it", with(3, 3, "121 000 000", "").least(0), 2);
        check.due("least, oblong", with(2, 3, "13 00 00", "").least(0), 6);
        check.due("least(4)", x.least(4), UNKNOWN);
        check.due("least(-1)", x.least(-1), UNKNOWN);
    }

    private static void about() {
        CubeHeaps x = with(3, 2, "", "");
        x.tell(true, 0, 0);
        x.tell(true, 2, 4);
        x.tell(false, 1, 1);
        x.tellTop(3, 0);
        x.tellTop(4, 1);
        x.tellSum(true, 1, 5);
        int[] answers = {3, 2, 3, 2, 6};
        for (int what = 0; what < 5; what++) check.due("about(" + what + ")", x.about(what), answers[what]);
        x.tell(true, 2, NONE);
        x.tellTop(3, NONE);
        check.due("about(2), one less", x.about(2), 2);
        check.due("about(3), one less", x.about(3), 1);
        check.due("about(-1)", x.about(-1), OUTSIDE);
        check.due("about(5)", x.about(5), OUTSIDE);
        check.due("about(max)", x.about(Integer.MAX_VALUE), OUTSIDE);
    }
}
