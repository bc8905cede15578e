/** Promise 23: streets by seeds, in mind. */
public final class SeedsTest {
    public static void main(String[] args) {
        for (int seed = -50; seed < 50; seed++) {
            for (int n = 1; n <= 40; n += 3) {
                like(n, seed * 77777777, "n");
                like(n, seed, "a0,0,00;a1,1,19;a1,0,34;l00");
                like(n, seed, "a0,0,00;a0,1,19;b1;l10");
                like(n, seed, "a0,0,00;l20");
            }
        }
        Due.is("none stands", Due.of("b0").seeds(40, 1, 0), 0);
        Due.is("none stands", Due.of("b0").seeds(40, 1, 1), 0);
        Due.is("once, 1 and 1 is 2", new SumOfTwoThatStand().seeds(1, 5, 1), 2);
        Due.is("once, two stand", new SumOfTwoThatStand().seeds(1, 5, 0), 2);
        Due.refusedNew("seeds(0, 1, 2)", y -> y.seeds(0, 1, 2), Due.OTHER);
        Due.refusedNew("seeds(41, 1, -1)", y -> y.seeds(41, 1, -1), Due.OTHER);
        Due.refusedNew("seeds(0, 1, 0)", y -> y.seeds(0, 1, 0), Due.BELOW);
        Due.refusedNew("seeds(41, 1, 1)", y -> y.seeds(41, 1, 1), Due.ROOM);
        Due.end();
    }

    /** What comes in mind is built here for real, on a twin. */
    private static void like(int n, int seed, String text) {
        SumOfTwoThatStand x = Due.of(text);
        SumOfTwoThatStand twin = Due.of(text);
        long z = seed;
        for (int i = 0; i < n; i++) {
            z = (z * 1103515245L + 12345L) & 0xffffffffL;
            int one = (int) ((z & 0x7fffffffL) / 65536 % twin.count(0));
            z = (z * 1103515245L + 12345L) & 0xffffffffL;
            int other = (int) ((z & 0x7fffffffL) / 65536 % twin.count(0));
            twin.add(one, other, 0, 0);
        }
        String call = text + " seeds(" + n + ", " + seed + ")";
        int came = x.count(0);
        int earned = x.count(5);
        Due.is(call + " how many", x.seeds(n, seed, 0), twin.count(1));
        Due.is(call + " the greatest", x.seeds(n, seed, 1), twin.count(2));
        Due.is(call + " came", x.count(0), came);
        Due.is(call + " earned", x.count(5), earned);
    }
}
