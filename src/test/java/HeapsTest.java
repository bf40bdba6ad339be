/** Promises 1 to 6: a new object, ground, set, height, copy, cubes. */
public final class HeapsTest {
    private static final Check check = new Check("HeapsTest");

    public static void main(String[] args) {
        newObject();
        ground();
        setAndHeight();
        copy();
        cubes();
        check.end();
    }

    private static void newObject() {
        CubeHeaps x = new CubeHeaps();
        check.due("about(0) of a new object", x.about(0), 4);
        check.due("about(1) of a new object", x.about(1), 4);
        check.due("about(2) of a new object", x.about(2), 0);
        check.due("about(3) of a new object", x.about(3), 0);
        check.due("about(4) of a new object", x.about(4), 16);
        check.due("heaps() of a new object", x.heaps(), 152587890625L);
        check.due("bySums() of a new object", x.bySums(), 1);
        for (int slot = 0; slot < 4; slot++) {
            check.holds("slot " + slot + " is empty", Check.heights(x, slot).equals("0000 0000 0000 0000"));
        }
        CubeHeaps other = new CubeHeaps();
        other.set(0, 0, 1);
        check.due("height(0, 0) when another object was set", x.height(0, 0), 0);
    }

    private static void ground() {
        for (int w = 1; w <= 5; w++) {
            for (int h = 1; h <= 5; h++) {
                CubeHeaps x = new CubeHeaps();
                x.set(2, 5, 3);
                x.tell(true, 3, 2);
                x.tell(false, 1, 2);
                x.tellTop(7, 1);
                x.tellSum(true, 2, 9);
                x.tellSum(false, 3, 9);
                check.due("ground(" + w + ", " + h + ")", x.ground(w, h), w * h);
                check.due("about(0)", x.about(0), w);
                check.due("about(1)", x.about(1), h);
                check.due("about(4)", x.about(4), w * h);
                check.holds("ground forgets all", Check.state(x).equals(Check.state(Check.on(w, h))));
                check.holds("ground forgets all, seen when it becomes large again", forgotWhenLarge(x));
            }
        }
        groundRefuses();
    }

    private static boolean forgotWhenLarge(CubeHeaps x) {
        x.ground(5, 5);
        return Check.state(x).equals(Check.state(Check.on(5, 5)));
    }

    private static void groundRefuses() {
        CubeHeaps x = new CubeHeaps();
        x.ground(3, 2);
        x.set(0, 5, 4);
        int[][] wrong = {{0, 1}, {1, 0}, {6, 1}, {1, 6}, {-1, 3}, {3, -1}, {6, 6},
            {Integer.MAX_VALUE, 1}, {1, Integer.MIN_VALUE}, {Integer.MIN_VALUE, Integer.MAX_VALUE}};
        String was = Check.state(x);
        for (int[] size : wrong) {
            check.due("ground(" + size[0] + ", " + size[1] + ")", x.ground(size[0], size[1]), CubeHeaps.OUTSIDE);
        }
        check.holds("a refused ground changes nothing", Check.state(x).equals(was));
    }

    private static void setAndHeight() {
        CubeHeaps x = new CubeHeaps();
        for (int slot = 0; slot < 4; slot++) {
            check.due("set to 4", x.set(slot, 15, 4), 0);
            check.due("set to slot + 1", x.set(slot, 15, slot + 1), 4);
            check.due("set to 0", x.set(slot, 0, 0), 0);
        }
        for (int slot = 0; slot < 4; slot++) check.due("height(slot, 15)", x.height(slot, 15), slot + 1);
        String was = Check.state(x);
        check.due("set(-1, 0, 0)", x.set(-1, 0, 0), CubeHeaps.UNKNOWN);
        check.due("set(4, 99, 99)", x.set(4, 99, 99), CubeHeaps.UNKNOWN);
        check.due("set(0, -1, 99)", x.set(0, -1, 99), CubeHeaps.UNKNOWN);
        check.due("set(0, 16, 1)", x.set(0, 16, 1), CubeHeaps.UNKNOWN);
        check.due("set(0, 0, -1)", x.set(0, 0, -1), CubeHeaps.OUTSIDE);
        check.due("set(0, 0, 5)", x.set(0, 0, 5), CubeHeaps.OUTSIDE);
        check.due("set(0, 0, NONE)", x.set(0, 0, CubeHeaps.NONE), CubeHeaps.OUTSIDE);
        check.due("height(4, 0)", x.height(4, 0), CubeHeaps.UNKNOWN);
        check.due("height(-1, 0)", x.height(-1, 0), CubeHeaps.UNKNOWN);
        check.due("height(0, 16)", x.height(0, 16), CubeHeaps.UNKNOWN);
        check.due("height(0, min)", x.height(0, Integer.MIN_VALUE), CubeHeaps.UNKNOWN);
        check.holds("a refused set changes nothing", Check.state(x).equals(was));
        x.ground(2, 3);
        check.due("set(0, 6, 1) on 2 by 3", x.set(0, 6, 1), CubeHeaps.UNKNOWN);
        check.due("set(0, 5, 1) on 2 by 3", x.set(0, 5, 1), 0);
    }

    private static void copy() {
        CubeHeaps x = new CubeHeaps();
        x.ground(3, 2);
        Check.heap(x, 0, "012 340");
        Check.heap(x, 3, "112 344");
        check.due("copy(0, 3)", x.copy(0, 3), 2);
        check.holds("slot 3 is as slot 0", Check.heights(x, 3).equals("012 340"));
        check.holds("slot 0 stays", Check.heights(x, 0).equals("012 340"));
        check.due("copy(0, 3) again", x.copy(0, 3), 0);
        check.due("copy(0, 0)", x.copy(0, 0), 0);
        check.due("copy(1, 0)", x.copy(1, 0), 4);
        x.set(1, 0, 4);
        check.due("height(0, 0), a copy is no link", x.height(0, 0), 0);
        check.due("copy(-1, 0)", x.copy(-1, 0), CubeHeaps.UNKNOWN);
        check.due("copy(4, 0)", x.copy(4, 0), CubeHeaps.UNKNOWN);
        check.due("copy(3, 4)", x.copy(3, 4), CubeHeaps.UNKNOWN);
        check.due("copy(3, -1)", x.copy(3, -1), CubeHeaps.UNKNOWN);
    }

    private static void cubes() {
        CubeHeaps x = new CubeHeaps();
        x.ground(5, 5);
        check.due("cubes(0) of none", x.cubes(0), 0);
        for (int cell = 0; cell < 25; cell++) x.set(3, cell, 4);
        check.due("cubes(3)", x.cubes(3), 100);
        check.due("cubes(2)", x.cubes(2), 0);
        check.due("cubes(4)", x.cubes(4), CubeHeaps.UNKNOWN);
        check.due("cubes(-1)", x.cubes(-1), CubeHeaps.UNKNOWN);
    }
}
