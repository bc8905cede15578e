/** Promise 2: letters come one by one, 64 at most. */
public final class FeedTest {
    public static void main(String[] args) {
        SumOfTwoThatStand x = new SumOfTwoThatStand();
        for (int i = 1; i <= 64; i++) {
            Due.is("feed() " + i, x.feed(i * 4 - 1), i);
        }
        Due.is("count(6)", x.count(6), 64);
        Due.is("the 65th", x.feed('n'), Due.ROOM);
        Due.is("below of the full", x.feed(-1), Due.BELOW);
        Due.is("count(6)", x.count(6), 64);
        Due.is("count(14)", x.count(14), 1);
        Due.is("count(16)", x.count(16), 1);
        Due.is("street()", x.street(), -1000);
        Due.is("feed() anew", x.feed(0), 1);
        Due.is("feed(255)", x.feed(255), 2);
        Due.refusedNew("feed(-1)", y -> y.feed(-1), Due.BELOW);
        Due.refusedNew("feed(least)", y -> y.feed(Integer.MIN_VALUE), Due.BELOW);
        Due.refusedNew("feed(256)", y -> y.feed(256), Due.ROOM);
        Due.refusedNew("feed(greatest)", y -> y.feed(Integer.MAX_VALUE), Due.ROOM);
        Due.refused("feed() of the full", () -> Due.letters(new SumOfTwoThatStand(), "n;".repeat(32)),
                y -> y.feed('n'), Due.ROOM);
        Due.end();
    }
}
