/** Promise 6: whether a new house of two may be. */
public final class MayTest {
    private static void is(String text, int one, int other, int want) {
        Due.is(text + " may(" + one + ", " + other + ")", Due.of(text).may(one, other), want);
        Due.is(text + " may(" + other + ", " + one + ")", Due.of(text).may(other, one), want);
    }

    public static void main(String[] args) {
        is("n", 0, 0, 1);
        is("a0,0,00", 0, 0, 0);
        is("a0,0,00", 0, 1, 1);
        is("a0,0,00;b1", 0, 0, 1);
        is("a0,0,40", 0, 1, 0);
        is("a0,0,40", 1, 1, 0);
        is("a0,0,10", 0, 1, 1);
        is("a0,0,10", 1, 1, 1);
        is("a0,0,29", 0, 1, 1);
        is("a0,0,59", 1, 1, 1);
        is("a0,0,30", 0, 1, 0);
        is("a0,0,30", 1, 1, 1);
        is("a0,0,00;a0,1,30", 2, 0, 1);
        is("a0,0,00;a0,1,30", 2, 1, 0);
        laws();
        Due.is("what it answers changes nothing", Due.of("a0,0,10").may(1, 1), 1);
        refusals();
        Due.end();
    }

    private static void laws() {
        is("a0,0,00;a0,1,00;l10", 0, 2, 1);
        is("a0,0,00;a0,1,00;l10", 2, 2, 1);
        is("a0,0,00;a0,1,00;l10", 1, 1, 0);
        is("a0,0,00;a0,1,00;b2;l10", 1, 1, 1);
        is("a0,0,00;a0,1,00;b2;l10", 0, 0, 0);
        is("a0,0,00;a0,1,00;l20", 2, 2, 1);
        is("a0,0,00;a0,1,00;l20", 1, 2, 0);
        is("a0,0,00;a0,1,00;l00", 1, 2, 1);
        // A hut that fell behind its sum isn't the one that came last.
        is("a0,0,00;a0,1,00;a1,1,10;a3,0,00;b4;l10", 2, 2, 1);
    }

    private static void refusals() {
        Due.refusedNew("may(-1, 0)", y -> y.may(-1, 0), Due.NOBODY);
        Due.refusedNew("may(0, 3)", y -> y.may(0, 3), Due.NOBODY);
        Due.refusedNew("may(3, 3)", y -> y.may(3, 3), Due.NOBODY);
        Due.Maker fallen = () -> Due.of("a0,0,00;b1");
        Due.refused("may(1, 0)", fallen, y -> y.may(1, 0), Due.STATE);
        Due.refused("may(0, 1)", fallen, y -> y.may(0, 1), Due.STATE);
        Due.refused("may(1, 2)", fallen, y -> y.may(1, 2), Due.NOBODY);
    }
}
