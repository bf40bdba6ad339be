/** Promises 15 to 24: tell, tellTop, tellAs, fits, heaps, with, span, count, lay, place. */
public final class ToldTest {
    private static final int NONE = CubeHeaps.NONE, UNKNOWN = CubeHeaps.UNKNOWN;
    private static final int OUTSIDE = CubeHeaps.OUTSIDE, STATE = CubeHeaps.STATE;
    private static final Check check = new Check("ToldTest");

    public static void main(String[] args) {
        tell();
        tellTop();
        tellAs();
        fits();
        heapsAndWith();
        span();
        count();
        layAndPlace();
        check.end();
    }

    private static CubeHeaps on(int w, int h) {
        CubeHeaps x = new CubeHeaps();
        x.ground(w, h);
        return x;
    }

    private static void tell() {
        CubeHeaps x = on(3, 2);
        check.due("tell(true, 2, 4)", x.tell(true, 2, 4), NONE);
        check.due("tell(false, 1, 0)", x.tell(false, 1, 0), NONE);
        check.due("tell(true, 2, 3)", x.tell(true, 2, 3), 4);
        check.due("tell(true, 2, NONE)", x.tell(true, 2, NONE), 3);
        check.due("tell(true, 2, NONE)", x.tell(true, 2, NONE), NONE);
        String was = Check.state(x);
        check.due("tell(true, 3, 9)", x.tell(true, 3, 9), UNKNOWN);
        check.due("tell(false, 2, 1)", x.tell(false, 2, 1), UNKNOWN);
        check.due("tell(false, -1, 1)", x.tell(false, -1, 1), UNKNOWN);
        check.due("tell(false, 1, 5)", x.tell(false, 1, 5), OUTSIDE);
        check.due("tell(false, 1, -1)", x.tell(false, 1, -1), OUTSIDE);
        check.due("tell(false, 1, -8)", x.tell(false, 1, -8), OUTSIDE);
        check.holds("a refused tell changes nothing", Check.state(x).equals(was));
        check.due("tell(false, 1, 4)", x.tell(false, 1, 4), 0);
    }

    private static void tellTop() {
        CubeHeaps x = on(3, 2);
        check.due("tellTop(5, 1)", x.tellTop(5, 1), NONE);
        check.due("tellTop(5, 0)", x.tellTop(5, 0), 1);
        check.due("tellTop(5, NONE)", x.tellTop(5, NONE), 0);
        check.due("tellTop(0, 1)", x.tellTop(0, 1), NONE);
        String was = Check.state(x);
        check.due("tellTop(6, 7)", x.tellTop(6, 7), UNKNOWN);
        check.due("tellTop(-1, 0)", x.tellTop(-1, 0), UNKNOWN);
        check.due("tellTop(0, 2)", x.tellTop(0, 2), OUTSIDE);
        check.due("tellTop(0, -1)", x.tellTop(0, -1), OUTSIDE);
        check.holds("a refused tellTop changes nothing", Check.state(x).equals(was));
    }

    private static void tellAs() {
        CubeHeaps x = on(3, 2);
        Check.heap(x, 2, "102 034");
        x.tell(true, 0, 1);
        x.tell(false, 1, 0);
        x.tellTop(1, 0);
        x.tellTop(5, 0);
        check.due("tellAs(2, false)", x.tellAs(2, false), 4);
        check.due("about(2)", x.about(2), 5);
        check.due("about(3), tops stay", x.about(3), 2);
        check.due("tellAs(2, true)", x.tellAs(2, true), 5);
        check.due("about(3)", x.about(3), 6);
        check.due("tellAs(2, true) again", x.tellAs(2, true), 0);
        check.due("tellAs(0, true)", x.tellAs(0, true), 9);
        check.due("tell(true, 2, NONE)", x.tell(true, 2, NONE), 0);
        check.due("tellAs(4, true)", x.tellAs(4, true), UNKNOWN);
        check.due("tellAs(-1, false)", x.tellAs(-1, false), UNKNOWN);
    }

    private static void fits() {
        CubeHeaps x = on(3, 2);
        Check.heap(x, 2, "102 034");
        check.due("fits(2), nothing told", x.fits(2), 1);
        x.tellAs(2, true);
        check.due("fits(2), all told", x.fits(2), 1);
        check.due("fits(0)", x.fits(0), 0);
        x.set(2, 5, 3);
        check.due("fits(2), too low", x.fits(2), 0);
        x.set(2, 5, 4);
        x.set(2, 1, 4);
        check.due("fits(2), too high", x.fits(2), 0);
        x.set(2, 1, 1);
        check.due("fits(2), a top too many", x.fits(2), 0);
        x.tellTop(1, NONE);
        check.due("fits(2), that top is not told", x.fits(2), 1);
        x.set(2, 2, 0);
        check.due("fits(2), a top is missing, the side too", x.fits(2), 0);
        x.tell(false, 0, NONE);
        check.due("fits(2), a top is missing", x.fits(2), 0);
        x.tellTop(2, NONE);
        check.due("fits(2), none is missing", x.fits(2), 1);
        check.due("fits(4)", x.fits(4), UNKNOWN);
        check.due("fits(-1)", x.fits(-1), UNKNOWN);
    }

    private static void heapsAndWith() {
        CubeHeaps x = on(2, 2);
        check.due("heaps()", x.heaps(), 625);
        check.due("with(3, 2)", x.with(3, 2), 125);
        x.tell(true, 0, 2);
        check.due("heaps(), one front", x.heaps(), 25 * 5);
        check.due("with(0, 2)", x.with(0, 2), 25 * 3);
        check.due("with(2, 1)", x.with(2, 1), 25);
        check.due("with(2, 3)", x.with(2, 3), 0);
        x.tell(false, 0, 1);
        check.due("heaps(), the corner is 1 at most", x.heaps(), 5 * 3);
        check.due("with(0, 1)", x.with(0, 1), 2 * 5);
        check.due("with(0, 0)", x.with(0, 0), 5);
        x.tellTop(0, 0);
        check.due("heaps(), a top", x.heaps(), 5);
        check.due("with(0, 0)", x.with(0, 0), 5);
        x.tellTop(3, 1);
        check.due("heaps(), two tops", x.heaps(), 4);
        x.tell(false, 1, 1);
        check.due("heaps(), none", x.heaps(), 0);
        check.due("with(0, 0), none", x.with(0, 0), 0);
        x.tell(false, 1, NONE);
        check.due("heaps(), told no more", x.heaps(), 4);
        check.due("with(4, 9)", x.with(4, 9), UNKNOWN);
        check.due("with(-1, 0)", x.with(-1, 0), UNKNOWN);
        check.due("with(0, 5)", x.with(0, 5), OUTSIDE);
        check.due("with(0, -1)", x.with(0, -1), OUTSIDE);
        check.due("all heaps of 5 by 5", on(5, 5).heaps(), 298023223876953125L);
        check.due("a fifth of them", on(5, 5).with(24, 4), 298023223876953125L / 5);
        CubeHeaps one = on(1, 1);
        one.tell(true, 0, 3);
        one.tell(false, 0, 2);
        check.due("heaps() of one cell that is told two heights", one.heaps(), 0);
    }

    private static void span() {
        CubeHeaps x = on(2, 2);
        check.due("span(0, false)", x.span(0, false), 0);
        check.due("span(0, true)", x.span(0, true), 4);
        x.tell(true, 0, 3);
        x.tell(false, 0, 2);
        check.due("span(2, false), the front must be here", x.span(2, false), 3);
        check.due("span(2, true)", x.span(2, true), 3);
        check.due("span(0, false)", x.span(0, false), 0);
        check.due("span(0, true)", x.span(0, true), 2);
        x.tellTop(0, 1);
        check.due("span(0, false), a top", x.span(0, false), 1);
        x.tellTop(2, 0);
        check.due("span(2, false), none fits", x.span(2, false), NONE);
        check.due("span(2, true), none fits", x.span(2, true), NONE);
        check.due("span(4, true)", x.span(4, true), UNKNOWN);
        check.due("span(-1, false)", x.span(-1, false), UNKNOWN);
    }

    private static void count() {
        CubeHeaps x = on(3, 3);
        check.due("count(false), nothing told", x.count(false), 0);
        check.due("count(true), nothing told", x.count(true), 36);
        for (int line = 0; line < 3; line++) {
            x.tell(true, line, 4 - line);
            x.tell(false, line, 4 - line);
        }
        check.due("count(false), fronts meet sides", x.count(false), 9);
        check.due("count(true)", x.count(true), 4 + 3 + 3 + 3 + 2 + 2 + 2 + 2 + 2);
        x.tellTop(0, 0);
        check.due("count(false), no place for both", x.count(false), NONE);
        x.tellTop(0, NONE);
        x.tellTop(4, 0);
        check.due("count(false), apart", x.count(false), 4 + 3 + 3 + 2);
        check.due("count(true)", x.count(true), 23 - 3);
        x.tellTop(8, 1);
        x.tellTop(2, 1);
        check.due("count(false), a top more", x.count(false), 4 + 3 + 3 + 2 + 1);
        x.tell(false, 2, 0);
        check.due("count(true), none fits", x.count(true), NONE);
        check.due("count(false), none fits", x.count(false), NONE);
    }

    private static CubeHeaps someFit() {
        CubeHeaps x = on(3, 2);
        x.tell(true, 0, 2);
        x.tell(false, 1, 1);
        x.tellTop(1, 1);
        return x;
    }

    private static void layAndPlace() {
        long heaps = someFit().heaps();
        String last = "";
        for (long place = 0; place < heaps; place++) {
            CubeHeaps x = someFit();
            int cubes = x.lay(1, place);
            String heights = Check.heights(x, 1);
            check.due("the cubes of lay(1, " + place + ")", cubes, x.cubes(1));
            check.due("fits(1)", x.fits(1), 1);
            check.due("place(1)", x.place(1), place);
            check.holds("heaps are in order", heights.compareTo(last) > 0);
            last = heights;
        }
        CubeHeaps x = someFit();
        String was = Check.state(x);
        check.due("lay at the first place behind", x.lay(1, heaps), OUTSIDE);
        check.due("lay(1, -1)", x.lay(1, -1), OUTSIDE);
        check.due("lay(1, max)", x.lay(1, Long.MAX_VALUE), OUTSIDE);
        check.due("lay(1, min)", x.lay(1, Long.MIN_VALUE), OUTSIDE);
        check.due("lay at a place above int", x.lay(1, 1L << 32), OUTSIDE);
        check.due("lay(4, -1)", x.lay(4, -1), UNKNOWN);
        check.due("lay(-1, 0)", x.lay(-1, 0), UNKNOWN);
        check.due("place(0), it does not fit", x.place(0), STATE);
        check.due("place(4)", x.place(4), UNKNOWN);
        check.due("place(-1)", x.place(-1), UNKNOWN);
        check.holds("a refused lay changes nothing", Check.state(x).equals(was));
        largePlaces();
    }

    private static void largePlaces() {
        CubeHeaps x = on(5, 5);
        check.due("the last of all heaps", x.lay(0, 298023223876953124L), 100);
        check.due("its place", x.place(0), 298023223876953124L);
        check.due("lay behind it", x.lay(0, 298023223876953125L), OUTSIDE);
        check.due("the first but one", x.lay(0, 1), 1);
        check.due("height(0, 24)", x.height(0, 24), 1);
        check.due("place of the empty heap", x.place(1), 0);
    }
}
