/** Promises 25 to 29: tellSum, sumsAs, bySums, laySums, spanSums. */
public final class SumsTest {
    private static final int NONE = CubeHeaps.NONE, UNKNOWN = CubeHeaps.UNKNOWN;
    private static final int OUTSIDE = CubeHeaps.OUTSIDE, STATE = CubeHeaps.STATE;
    private static final Check check = new Check("SumsTest");

    public static void main(String[] args) {
        tellSum();
        sumsAs();
        bySums();
        laySums();
        spanSums();
        check.end();
    }

    private static CubeHeaps sums(int[] columns, int[] rows) {
        CubeHeaps x = new CubeHeaps();
        x.ground(columns.length, rows.length);
        for (int i = 0; i < columns.length; i++) x.tellSum(true, i, columns[i]);
        for (int i = 0; i < rows.length; i++) x.tellSum(false, i, rows[i]);
        return x;
    }

    private static void tellSum() {
        CubeHeaps x = sums(new int[] {0, 0, 0}, new int[] {0, 0});
        check.due("tellSum(true, 2, 20)", x.tellSum(true, 2, 20), 0);
        check.due("tellSum(true, 2, 7)", x.tellSum(true, 2, 7), 20);
        check.due("tellSum(false, 1, 3)", x.tellSum(false, 1, 3), 0);
        check.due("tellSum(false, 1, 0)", x.tellSum(false, 1, 0), 3);
        String was = Check.state(x);
        check.due("tellSum(true, 3, 99)", x.tellSum(true, 3, 99), UNKNOWN);
        check.due("tellSum(false, 2, 1)", x.tellSum(false, 2, 1), UNKNOWN);
        check.due("tellSum(false, -1, 1)", x.tellSum(false, -1, 1), UNKNOWN);
        check.due("tellSum(true, 0, 21)", x.tellSum(true, 0, 21), OUTSIDE);
        check.due("tellSum(true, 0, -1)", x.tellSum(true, 0, -1), OUTSIDE);
        check.due("tellSum(true, 0, NONE)", x.tellSum(true, 0, NONE), OUTSIDE);
        check.holds("a refused tellSum changes nothing", Check.state(x).equals(was));
    }

    private static void sumsAs() {
        CubeHeaps x = sums(new int[] {9, 9, 9}, new int[] {9, 9});
        Check.heap(x, 3, "102 034");
        check.due("sumsAs(3)", x.sumsAs(3), 10);
        int[] columns = {1, 3, 6};
        for (int i = 0; i < 3; i++) check.due("SUM of column " + i, x.tellSum(true, i, columns[i]), columns[i]);
        check.due("SUM of row 0", x.tellSum(false, 0, 3), 3);
        check.due("SUM of row 1", x.tellSum(false, 1, 7), 7);
        check.due("sumsAs(0)", x.sumsAs(0), 0);
        check.due("SUM of row 1", x.tellSum(false, 1, 0), 0);
        check.due("sumsAs(4)", x.sumsAs(4), UNKNOWN);
        check.due("sumsAs(-1)", x.sumsAs(-1), UNKNOWN);
    }

    private static void bySums() {
        check.due("bySums() of none", sums(new int[] {0, 0}, new int[] {0, 0}).bySums(), 1);
        check.due("bySums(), one cube more", sums(new int[] {1, 0}, new int[] {0, 0}).bySums(), 0);
        check.due("bySums(), two ways", sums(new int[] {1, 1}, new int[] {1, 1}).bySums(), 2);
        check.due("bySums(), full", sums(new int[] {8, 8}, new int[] {8, 8}).bySums(), 1);
        check.due("bySums(), a line too full", sums(new int[] {9, 7}, new int[] {8, 8}).bySums(), 0);
        check.due("bySums(), a cell too full", sums(new int[] {5, 0}, new int[] {5, 0}).bySums(), 0);
        check.due("bySums(), full 5 by 5",
            sums(new int[] {20, 20, 20, 20, 20}, new int[] {20, 20, 20, 20, 20}).bySums(), 1);
        CubeHeaps x = sums(new int[] {1, 1}, new int[] {1, 1});
        x.tellTop(0, 1);
        check.due("bySums(), a top makes it sure", x.bySums(), 1);
        x.tellTop(3, 0);
        check.due("bySums(), another forbids it", x.bySums(), 0);
        x.tellTop(0, NONE);
        check.due("bySums(), the other way is left", x.bySums(), 1);
        x.tellTop(3, NONE);
        x.tell(true, 0, 4);
        x.tell(false, 0, 0);
        check.due("bySums(), fronts and sides do not count here", x.bySums(), 2);
    }

    private static void laySums() {
        CubeHeaps x = sums(new int[] {4, 3, 1}, new int[] {5, 3});
        check.due("laySums(2)", x.laySums(2), 8);
        check.holds("the first heap comes", Check.heights(x, 2).equals("131 300"));
        x.tellTop(5, 1);
        check.due("laySums(2), a top", x.laySums(2), 8);
        check.holds("the first heap with that top comes", Check.heights(x, 2).equals("230 201"));
        x.tellTop(0, 0);
        String was = Check.state(x);
        check.due("laySums(2), none", x.laySums(2), STATE);
        check.due("laySums(4), none", x.laySums(4), UNKNOWN);
        check.due("laySums(-1), none", x.laySums(-1), UNKNOWN);
        check.holds("a refused laySums changes nothing", Check.state(x).equals(was));
    }

    private static void spanSums() {
        CubeHeaps x = sums(new int[] {4, 3, 1}, new int[] {5, 3});
        int[] least = {1, 0, 0, 0, 0, 0};
        int[] most = {4, 3, 1, 3, 3, 1};
        for (int cell = 0; cell < 6; cell++) {
            check.due("spanSums(" + cell + ", false)", x.spanSums(cell, false), least[cell]);
            check.due("spanSums(" + cell + ", true)", x.spanSums(cell, true), most[cell]);
        }
        x.tellTop(5, 1);
        check.due("spanSums(5, false), a top", x.spanSums(5, false), 1);
        check.due("spanSums(2, true), a top elsewhere", x.spanSums(2, true), 0);
        check.due("spanSums(6, true)", x.spanSums(6, true), UNKNOWN);
        check.due("spanSums(-1, true)", x.spanSums(-1, true), UNKNOWN);
        x.tellTop(0, 0);
        check.due("spanSums(5, false), none", x.spanSums(5, false), NONE);
        check.due("spanSums(5, true), none", x.spanSums(5, true), NONE);
        check.due("spanSums(6, true), none", x.spanSums(6, true), UNKNOWN);
        check.due("about(3), spans change nothing", x.about(3), 2);
    }
}
