/** Promise 19: in how many orders those that stand could have come. */
public final class OrdersTest {
    private static void is(String text, int want) {
        SumOfTwoThatStand x = Due.of(text);
        Due.is(text + " orders()", x.orders(), want);
        Due.is(text + " orders() again", x.orders(), want);
    }

    public static void main(String[] args) {
        is("n", 1);
        is("b0", 1);
        is("a0,0,00", 1);
        is("a0,0,00;a0,1,00;a1,1,00", 2);
        is("a0,0,00;b0", 1);
        is("a0,0,00;a1,1,00;b1", 2);
        is("a0,0,00;a1,0,00;b1", 1);
        is("a0,0,00;a1,0,00;b0", 1);
        is("a0,0,00;a1,1,00;a2,2,00;b1", 3);
        is("a0,0,00;a1,1,00;a2,2,00;b1;b2", 2);
        is("a0,0,10;a1,1,00;a0,2,50", 2);
        // 1 and 2 first, then any of 3, 4: behind them 5 (2 and 3), 6 (4 and 2).
        is("a0,0,00;a0,1,00;a1,1,00;a1,2,00;a1,3,00", 6);
        SumOfTwoThatStand x = new SumOfTwoThatStand();
        for (int i = 0; i < 11; i++) {
            x.add(i, i, 0, 0);
        }
        Due.is("twelve in a row", x.orders(), 1);
        for (int i = 1; i < 12; i += 2) {
            x.burn(i);
        }
        Due.is("six apart", x.orders(), 720);
        wide();
        Due.end();
    }

    /** 1, 2, 4 .. 64, then 1 with each of four others: the more come, the more orders. */
    private static void wide() {
        SumOfTwoThatStand x = new SumOfTwoThatStand();
        for (int i = 0; i < 6; i++) {
            x.add(i, i, 0, 0);
        }
        for (int i = 1; i < 6; i++) {
            x.add(0, i, 0, 0);
        }
        Due.is("came", x.count(0), 12);
        // Each of 3, 5, 9, 17, 33 is let in behind its power: from the last one on 2, 4, 6, 8, 10 places.
        Due.is("wide", x.orders(), 2 * 4 * 6 * 8 * 10);
    }
}
