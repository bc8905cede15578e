/** Promises 21 and 22: numbers told one by one, and judged. */
public final class RowTest {
    private static void is(int want, int... numbers) {
        SumOfTwoThatStand x = new SumOfTwoThatStand();
        for (int i = 0; i < numbers.length; i++) {
            Due.is("row(" + numbers[i] + ")", x.row(numbers[i]), i + 1);
        }
        Due.is("count(7)", x.count(7), numbers.length);
        Due.is("judge() of " + java.util.Arrays.toString(numbers), x.judge(), want);
        Due.is("count(7)", x.count(7), 0);
        Due.is("judge() of none", x.judge(), Due.NONE);
    }

    public static void main(String[] args) {
        is(Due.NONE);
        is(Due.NONE, 1);
        is(Due.NONE, 1, 2, 4, 3);
        is(Due.NONE, 1, 2, 3, 5, 8, 13, 21, 34, 55, 89, 144, 233);
        is(11, 1, 2, 3, 5, 8, 13, 21, 34, 55, 89, 144, 144);
        is(11, 1, 2, 3, 5, 8, 13, 21, 34, 55, 89, 144, 9999);
        is(0, 2);
        is(0, 9999, 1);
        is(1, 1, 1);
        is(1, 1, 3);
        is(2, 1, 2, 2);
        is(2, 1, 2, 1);
        is(2, 1, 2, 5, 2);
        is(3, 1, 2, 4, 7);
        is(4, 1, 2, 4, 3, 4);
        Due.refusedNew("row(0)", y -> y.row(0), Due.BELOW);
        Due.refusedNew("row(least)", y -> y.row(Integer.MIN_VALUE), Due.BELOW);
        Due.refusedNew("row(10000)", y -> y.row(10000), Due.ROOM);
        Due.refused("the 13th", RowTest::full, y -> y.row(1), Due.ROOM);
        Due.refused("the 13th, below", RowTest::full, y -> y.row(0), Due.BELOW);
        Due.is("the greatest", new SumOfTwoThatStand().row(9999), 1);
        Due.end();
    }

    private static SumOfTwoThatStand full() {
        SumOfTwoThatStand x = new SumOfTwoThatStand();
        for (int i = 0; i < 12; i++) {
            x.row(1 << i);
        }
        return x;
    }
}
