/** Runs of calls, made by a fixed rule, on the class and on the model: every answer is compared. */
public final class AgainstModelTest {
    private static final Check check = new Check("AgainstModelTest");
    private static final int RUNS = 2000;
    private static final int STEPS = 60;
    /** An object is used for so many calls; what later ones answer is free. */
    private static final int CALLS_OF_A_LIFE = 512;

    private static long seed = 1;
    private static CubeHeaps x;
    private static Model m;
    private static String trail;
    private static int used;

    public static void main(String[] args) {
        for (int run = 0; run < RUNS; run++) {
            x = new CubeHeaps();
            m = new Model();
            used = 0;
            for (int step = 0; step < STEPS && used < CALLS_OF_A_LIFE; step++) anyStep(run, step);
        }
        check.end();
    }

    /** A number from 0 to below n. */
    private static int any(int n) {
        seed = seed * 6364136223846793005L + 1442695040888963407L;
        return (int) ((seed >>> 33) % n);
    }

    /** A number from 0 to below n, and now and then one that is near it or far away. */
    private static int mostly(int n) {
        int kind = any(60);
        if (kind == 0) return -1;
        if (kind == 1) return n;
        if (kind == 2) return any(2) == 0 ? Integer.MAX_VALUE : Integer.MIN_VALUE;
        return any(n);
    }

    private static int cell() {
        return mostly(m.about(4));
    }

    private static int line(boolean column) {
        return mostly(m.about(column ? 0 : 1));
    }

    private static void due(String call, long got, long want) {
        used++;
        if (used <= CALLS_OF_A_LIFE) check.due(trail + ", " + call, got, want);
    }

    private static void anyStep(int run, int step) {
        trail = "run " + run + " step " + step;
        if (step == 0 || any(80) == 0) changeGround();
        switch (any(10)) {
            case 0: case 1: setCalls(); break;
            case 2: lookCalls(); break;
            case 3: case 4: tellCalls(); break;
            case 5: case 6: fitCalls(); break;
            case 7: case 8: sumCalls(); break;
            default: turnCalls(); break;
        }
    }

    private static void changeGround() {
        int w = mostly(5) + 1;
        int h = mostly(5) + 1;
        due("ground", x.ground(w, h), m.ground(w, h));
        for (int slot = 0; slot < 4; slot++) fillSlot(slot);
    }

    /** Heaps of few heights, so that likeness, sums and fits come about. */
    private static void fillSlot(int slot) {
        int heights = 1 + any(5);
        int empty = any(3);
        for (int cell = 0; cell < m.about(4); cell++) {
            int height = any(3) < empty ? 0 : any(heights);
            due("set", x.set(slot, cell, height), m.set(slot, cell, height));
        }
    }

    private static void setCalls() {
        int slot = mostly(4);
        int other = mostly(4);
        int cell = cell();
        int height = mostly(5);
        switch (any(5)) {
            case 0: due("set", x.set(slot, cell, height), m.set(slot, cell, height)); break;
            case 1: due("height", x.height(slot, cell), m.height(slot, cell)); break;
            case 2: due("copy", x.copy(slot, other), m.copy(slot, other)); break;
            case 3: due("cubes", x.cubes(slot), m.cubes(slot)); break;
            default: fillSlot(any(4)); break;
        }
        due("about", x.about(height), m.about(height));
    }

    private static void lookCalls() {
        int slot = mostly(4);
        boolean is = any(2) == 0;
        int line = line(is);
        int direction = mostly(4);
        int towers = line(direction == 1 || direction == 3);
        int layer = mostly(4) + 1;
        due("front", x.front(slot, line), m.front(slot, line));
        due("side", x.side(slot, line), m.side(slot, line));
        due("sum", x.sum(slot, is, line), m.sum(slot, is, line));
        due("seen", x.seen(slot, direction, towers), m.seen(slot, direction, towers));
        due("skin", x.skin(slot), m.skin(slot));
        due("layer", x.layer(slot, layer, is), m.layer(slot, layer, is));
        due("water", x.water(slot), m.water(slot));
        int cell = cell();
        due("level", x.level(slot, cell), m.level(slot, cell));
    }

    private static void tellCalls() {
        int slot = mostly(4);
        boolean is = any(2) == 0;
        int line = line(is);
        int cell = cell();
        int v = any(3) == 0 ? CubeHeaps.NONE : mostly(5);
        int top = any(3) == 0 ? CubeHeaps.NONE : mostly(2);
        switch (any(4)) {
            case 0: due("tell", x.tell(is, line, v), m.tell(is, line, v)); break;
            case 1: due("tellTop", x.tellTop(cell, top), m.tellTop(cell, top)); break;
            case 2: due("tellAs", x.tellAs(slot, is), m.tellAs(slot, is)); break;
            default: forgetSome(); break;
        }
        due("about(2)", x.about(2), m.about(2));
        due("about(3)", x.about(3), m.about(3));
        due("fits", x.fits(slot), m.fits(slot));
        due("heaps", x.heaps(), m.heaps());
    }

    private static void forgetSome() {
        for (int cell = 0; cell < m.about(4); cell++) {
            if (any(2) == 0) due("tellTop", x.tellTop(cell, CubeHeaps.NONE), m.tellTop(cell, CubeHeaps.NONE));
        }
        for (int line = 0; line < 5; line++) {
            boolean column = any(2) == 0;
            due("tell", x.tell(column, line, CubeHeaps.NONE), m.tell(column, line, CubeHeaps.NONE));
        }
    }

    private static void fitCalls() {
        int slot = mostly(4);
        int cell = cell();
        int height = mostly(5);
        boolean most = any(2) == 0;
        switch (any(5)) {
            case 0: due("with", x.with(cell, height), m.with(cell, height)); break;
            case 1: due("span", x.span(cell, most), m.span(cell, most)); break;
            case 2: if (any(4) == 0) due("count", x.count(most), m.count(most)); break;
            case 3: layAnywhere(slot); break;
            default: due("place", x.place(slot), m.place(slot)); break;
        }
    }

    private static void layAnywhere(int slot) {
        long heaps = m.heaps();
        long place = any(4) == 0 ? heaps - any(3) : (seed >>> 1) % Math.max(1, heaps);
        due("lay", x.lay(slot, place), m.lay(slot, place));
        compareSlot(slot);
        due("place", x.place(slot), m.place(slot));
    }

    private static void compareSlot(int slot) {
        for (int cell = 0; cell < m.about(4); cell++) {
            due("height(" + slot + ", " + cell + ")", x.height(slot, cell), m.height(slot, cell));
        }
    }

    private static void sumCalls() {
        int slot = mostly(4);
        boolean is = any(2) == 0;
        int line = line(is);
        int cell = cell();
        switch (any(6)) {
            case 0: due("sumsAs", x.sumsAs(slot), m.sumsAs(slot)); break;
            case 1: moveSums(); break;
            case 2: int v = mostly(21); due("tellSum", x.tellSum(is, line, v), m.tellSum(is, line, v)); break;
            case 3: due("laySums", x.laySums(slot), m.laySums(slot)); compareSlot(slot); break;
            case 4: due("spanSums", x.spanSums(cell, is), m.spanSums(cell, is)); break;
            default: due("bySums", x.bySums(), m.bySums()); break;
        }
    }

    /** One cube more in a column and one in a row, so that as many stand in both. */
    private static void moveSums() {
        for (int side = 0; side < 2; side++) {
            boolean column = side == 0;
            int line = any(m.about(side));
            int was = m.tellSum(column, line, 0);
            int more = Math.min(20, was + 1);
            m.tellSum(column, line, more);
            due("tellSum", x.tellSum(column, line, more), was);
        }
    }

    private static void turnCalls() {
        int slot = mostly(4);
        int other = mostly(4);
        int t = mostly(8);
        switch (any(5)) {
            case 0: due("turn", x.turn(slot, t), m.turn(slot, t)); break;
            case 1: due("least", x.least(slot), m.least(slot)); break;
            case 2: due("same", x.same(slot), m.same(slot)); break;
            case 3: due("carry", x.carry(slot, other), m.carry(slot, other)); break;
            default: carryMixed(); break;
        }
        compareSlot(slot);
        due("alike", x.alike(slot, other), m.alike(slot, other));
    }

    /** Slot 3 becomes slot 2 with cubes moved elsewhere, so that there are as many. */
    private static void carryMixed() {
        due("copy", x.copy(2, 3), m.copy(2, 3));
        for (int i = 0; i < 30; i++) {
            int one = any(m.about(4));
            int other = any(m.about(4));
            int from = m.height(3, one);
            int to = m.height(3, other);
            int moved = Math.min(from, 4 - to);
            if (one == other) continue;
            due("set", x.set(3, one, from - moved), m.set(3, one, from - moved));
            due("set", x.set(3, other, to + moved), m.set(3, other, to + moved));
        }
        due("carry", x.carry(2, 3), m.carry(2, 3));
        due("carry", x.carry(3, 2), m.carry(3, 2));
    }
}
