/** Promise 4: what is told of a house. */
public final class HouseTest {
    private static void is(SumOfTwoThatStand x, int house, int... told) {
        for (int what = 0; what < told.length; what++) {
            Due.is("house(" + house + ", " + what + ")", x.house(house, what), told[what]);
        }
    }

    public static void main(String[] args) {
        SumOfTwoThatStand x = new SumOfTwoThatStand();
        x.add(0, 0, 2, 7);
        x.add(1, 0, 3, 9);
        x.add(2, 2, 1, 0);
        x.add(3, 1, 5, 1);
        is(x, 0, 0, 0, 1, -4, -4, 1, 3, 0);
        is(x, 1, 2, 7, 2, 0, 0, 1, 2, 14);
        is(x, 2, 3, 9, 3, 1, 0, 1, 2, 38);
        is(x, 3, 1, 0, 6, 2, 2, 0, 1, 0);
        is(x, 4, 5, 1, 8, 3, 1, 1, 0, 0);
        Due.is("the place of one that fell", x.count(0), 5);
        Due.is("-4 of HOUSE 0's TWO is no refusal", x.count(14), 0);
        Due.refusedNew("house(-1, 0)", y -> y.house(-1, 0), Due.NOBODY);
        Due.refusedNew("house(12, 0)", y -> y.house(12, 0), Due.NOBODY);
        Due.refusedNew("house(3, 9)", y -> y.house(3, 9), Due.NOBODY);
        Due.refusedNew("house(greatest, 0)", y -> y.house(Integer.MAX_VALUE, 0), Due.NOBODY);
        Due.refusedNew("house(0, -1)", y -> y.house(0, -1), Due.OTHER);
        Due.refusedNew("house(0, 8)", y -> y.house(0, 8), Due.OTHER);
        Due.end();
    }
}
