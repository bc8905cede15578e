/** Promise 18: the fewest new houses to a number, as the street stands. */
public final class MoreTest {
    private static void is(String text, int n, int want) {
        SumOfTwoThatStand x = Due.of(text);
        Due.is(text + " more(" + n + ")", x.more(n), want);
        Due.is(text + " more(" + n + ") again", x.more(n), want);
    }

    public static void main(String[] args) {
        is("n", 1, 0);
        is("n", 2, 1);
        is("n", 3, 2);
        is("n", 4, 2);
        is("n", 5, Due.NONE);
        is("b0", 1, Due.NONE);
        is("a0,0,00;b0", 3, Due.NONE);
        is("a0,0,00;b0", 4, 1);
        is("a0,0,00;b0", 6, 2);
        is("a0,0,00;b0", 8, 2);
        is("a0,0,00;a1,1,00;b1", 2, 1);
        kinds();
        laws();
        room();
        Due.refusedNew("more(0)", y -> y.more(0), Due.BELOW);
        Due.refusedNew("more(least)", y -> y.more(Integer.MIN_VALUE), Due.BELOW);
        Due.refusedNew("more(301)", y -> y.more(301), Due.ROOM);
        Due.refusedNew("more(greatest)", y -> y.more(Integer.MAX_VALUE), Due.ROOM);
        Due.end();
    }

    private static void kinds() {
        is("a0,0,40", 3, Due.NONE);
        is("a0,0,10", 4, 1);
        is("a0,0,10", 5, 2);
        // The hut falls behind the first sum: it can't be the second's.
        is("a0,0,10", 6, 2);
        is("a0,0,10;b0", 6, Due.NONE);
        is("a0,0,00;b0", 6, 2);
        is("a0,0,30;b0", 4, 1);
        is("a0,0,00;a0,1,30;b0;b1", 6, 1);
        is("a0,0,00;a0,1,30;b0;b1", 9, Due.NONE);
        is("a0,0,00;a0,1,00;b0;b1", 9, 2);
    }

    private static void laws() {
        is("a0,0,00;a0,1,00;l10", 4, 1);
        is("a0,0,00;a0,1,00;l20", 4, 1);
        is("a0,0,00;a0,1,00;l20", 5, Due.NONE);
        is("a0,0,00;a0,1,00;l10", 8, 2);
        is("a0,0,00;a1,1,00;l10", 3, Due.NONE);
        is("a0,0,00;a1,1,00;l00", 3, 1);
        is("a0,0,00;a1,1,00;l10", 7, 2);
        is("a0,0,00;a1,1,00;a2,2,00;a3,3,00;a4,4,00;a5,5,00;a6,6,00;a7,7,00", 300, Due.NONE);
        is("a0,0,00;a1,1,00;a2,2,00;a3,3,00;a4,4,00;a5,5,00;a6,6,00;a7,7,00", 288, 1);
        is("a0,0,00;a1,1,00;a2,2,00;a3,3,00;a4,4,00;a5,5,00;a6,6,00;a7,7,00", 296, 2);
    }

    private static void room() {
        SumOfTwoThatStand x = new SumOfTwoThatStand();
        for (int i = 0; i < 9; i++) {
            x.add(i, i, 0, 0);
        }
        Due.is("room for two", x.more(7), 2);
        x.add(9, 9, 0, 0);
        Due.is("room for one", x.more(7), Due.NONE);
        Due.is("room for one", x.more(6), 1);
        x.add(10, 10, 0, 0);
        Due.is("no room", x.more(6), Due.NONE);
        Due.is("no room, it stands", x.more(256), 0);
        x.burn(8);
        Due.is("no room, it fell", x.more(256), Due.NONE);
    }
}
