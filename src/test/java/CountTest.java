/** Promise 26: what is counted. */
public final class CountTest {
    private static void are(SumOfTwoThatStand x, int... want) {
        for (int what = 0; what < want.length; what++) {
            Due.is("count(" + what + ")", x.count(what), want[what]);
        }
    }

    public static void main(String[] args) {
        SumOfTwoThatStand x = Due.of("a0,0,29;a1,1,33;a2,2,00;l10");
        are(x, 4, 4, 8, 1, 0, 32, 0, 0, -9, -9, -9, 0, 0, 0, 0, 0, 0, -9);
        x.burn(1);
        x.burn(3);
        x.law(1, 1);
        x.feed(7);
        x.row(5);
        x.row(6);
        are(x, 4, 2, 4, 1, 1, 32, 1, 2, -9, -9, -9, 0, 0, 0, 0, 0, 0);
        for (int i = 0; i < 2; i++) {
            Due.counted("house(9, 0)", x, y -> y.house(9, 0), Due.NOBODY);
        }
        Due.counted("law(2, 0)", x, y -> y.law(2, 0), Due.OTHER);
        Due.counted("restore()", x, SumOfTwoThatStand::restore, Due.STATE);
        Due.counted("row(0)", x, y -> y.row(0), Due.BELOW);
        Due.counted("far(13)", x, y -> y.far(13), Due.ROOM);
        are(x, 4, 2, 4, 1, 1, 32, 1, 2, -9, -9, -9, 4, 2, 2, 2, 0, 2, -9);
        for (int what : new int[] {-1, 8, 10, 17, Integer.MIN_VALUE, Integer.MAX_VALUE}) {
            Due.is("count(" + what + ")", x.count(what), Due.NONE);
        }
        are(x, 4, 2, 4, 1, 1, 32, 1, 2, -9, -9, -9, 4, 2, 2, 2, 0, 2, -9);
        Due.end();
    }
}
