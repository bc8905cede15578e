/** Promises 12 to 17: chains against all chains that there are. */
public final class ChainsTest {
    private static final int[][] FIRST = new int[101][];
    private static final int[][] TOGETHER = new int[31][31];
    private static final int[] CHAIN = new int[12];

    public static void main(String[] args) {
        fewest();
        ways();
        both();
        far();
        can();
        refusals();
        Due.end();
    }

    /** All chains with numbers up to 100, in the order of their numbers: the first of the shortest stays. */
    private static void allChains(int length, int most, int greatest, Visit visit) {
        visit.to(length);
        if (length == most) {
            return;
        }
        int last = CHAIN[length - 1];
        for (int next = last + 1; next <= Math.min(2 * last, greatest); next++) {
            if (isSum(length, next)) {
                CHAIN[length] = next;
                allChains(length + 1, most, greatest, visit);
            }
        }
    }

    private interface Visit {
        void to(int length);
    }

    private static boolean isSum(int length, int number) {
        for (int i = 0; i < length; i++) {
            for (int j = 0; j < length; j++) {
                if (CHAIN[i] + CHAIN[j] == number) {
                    return true;
                }
            }
        }
        return false;
    }

    private static void fewest() {
        CHAIN[0] = 1;
        allChains(1, 10, 100, length -> {
            int last = CHAIN[length - 1];
            if (FIRST[last] == null || FIRST[last].length > length) {
                FIRST[last] = java.util.Arrays.copyOf(CHAIN, length);
            }
        });
        for (int n = 1; n <= 100; n++) {
            SumOfTwoThatStand x = new SumOfTwoThatStand();
            Due.is("fewest(" + n + ")", x.fewest(n), FIRST[n].length);
            for (int i = 0; i < FIRST[n].length; i++) {
                Due.is("chain(" + n + ", " + i + ")", x.chain(n, i), FIRST[n][i]);
            }
            Due.is("chain() of " + n + " one beyond", x.chain(n, FIRST[n].length), Due.NONE);
            Due.is("chain() of " + n + " far beyond", x.chain(n, Integer.MAX_VALUE), Due.NONE);
        }
        SumOfTwoThatStand x = new SumOfTwoThatStand();
        Due.is("chain(71, 8)", x.chain(71, 8), FIRST[71][8]);
        x.can(7, 0);
        Due.is("chain(71, 8) behind another search", x.chain(71, 8), FIRST[71][8]);
    }

    private static void ways() {
        int[] factors = new int[301];
        for (int n = 1; n <= 300; n++) {
            int halves = 1;
            for (int rest = n; rest > 1; rest /= 2) {
                halves += 1 + rest % 2;
            }
            int p = 2;
            while (p < n && n % p != 0) {
                p++;
            }
            factors[n] = n == 1 ? 1 : p == n ? factors[n - 1] + 1 : factors[p] + factors[n / p] - 1;
            SumOfTwoThatStand x = new SumOfTwoThatStand();
            Due.is("way(" + n + ", 0)", x.way(n, 0), halves);
            Due.is("way(" + n + ", 1)", x.way(n, 1), factors[n]);
        }
        Due.is("way(15, 0)", new SumOfTwoThatStand().way(15, 0), 7);
        Due.is("way(15, 1)", new SumOfTwoThatStand().way(15, 1), 6);
    }

    private static void both() {
        allChains(1, 9, 30, length -> {
            int last = CHAIN[length - 1];
            for (int i = 0; i < length; i++) {
                int was = TOGETHER[last][CHAIN[i]];
                TOGETHER[last][CHAIN[i]] = was == 0 ? length : Math.min(was, length);
            }
        });
        for (int n = 1; n <= 30; n++) {
            SumOfTwoThatStand x = new SumOfTwoThatStand();
            for (int m = 1; m <= n; m++) {
                Due.is("both(" + n + ", " + m + ")", x.both(n, m), TOGETHER[n][m]);
                Due.is("both(" + m + ", " + n + ")", x.both(m, n), TOGETHER[n][m]);
            }
        }
    }

    private static void far() {
        for (int k = 1; k <= 12; k++) {
            Due.is("far(" + k + ")", new SumOfTwoThatStand().far(k), (int) Math.pow(2, k - 1));
        }
    }

    private static void can() {
        for (int k = 1; k <= 7; k++) {
            java.util.BitSet within = new java.util.BitSet();
            allChains(1, k, 1000, length -> within.set(CHAIN[length - 1]));
            Due.is("can(" + k + ", 0)", new SumOfTwoThatStand().can(k, 0), within.cardinality());
            Due.is("can(" + k + ", 1)", new SumOfTwoThatStand().can(k, 1), within.nextClearBit(1));
        }
    }

    private static void refusals() {
        int least = Integer.MIN_VALUE;
        int greatest = Integer.MAX_VALUE;
        Due.refusedNew("fewest(0)", y -> y.fewest(0), Due.BELOW);
        Due.refusedNew("fewest(least)", y -> y.fewest(least), Due.BELOW);
        Due.refusedNew("fewest(101)", y -> y.fewest(101), Due.ROOM);
        Due.refusedNew("fewest(greatest)", y -> y.fewest(greatest), Due.ROOM);
        Due.refusedNew("chain(0, 0)", y -> y.chain(0, 0), Due.BELOW);
        Due.refusedNew("chain(1, -1)", y -> y.chain(1, -1), Due.BELOW);
        Due.refusedNew("chain(101, -1)", y -> y.chain(101, -1), Due.BELOW);
        Due.refusedNew("chain(101, 99)", y -> y.chain(101, 99), Due.ROOM);
        Due.refusedNew("way(0, 2)", y -> y.way(0, 2), Due.OTHER);
        Due.refusedNew("way(301, -1)", y -> y.way(301, -1), Due.OTHER);
        Due.refusedNew("way(0, 1)", y -> y.way(0, 1), Due.BELOW);
        Due.refusedNew("way(301, 0)", y -> y.way(301, 0), Due.ROOM);
        Due.refusedNew("both(0, 31)", y -> y.both(0, 31), Due.BELOW);
        Due.refusedNew("both(31, 0)", y -> y.both(31, 0), Due.BELOW);
        Due.refusedNew("both(31, 1)", y -> y.both(31, 1), Due.ROOM);
        Due.refusedNew("both(1, 31)", y -> y.both(1, 31), Due.ROOM);
        Due.refusedNew("both(greatest, greatest)", y -> y.both(greatest, greatest), Due.ROOM);
        Due.refusedNew("far(0)", y -> y.far(0), Due.BELOW);
        Due.refusedNew("far(13)", y -> y.far(13), Due.ROOM);
        Due.refusedNew("can(0, 2)", y -> y.can(0, 2), Due.OTHER);
        Due.refusedNew("can(8, -1)", y -> y.can(8, -1), Due.OTHER);
        Due.refusedNew("can(0, 0)", y -> y.can(0, 0), Due.BELOW);
        Due.refusedNew("can(8, 1)", y -> y.can(8, 1), Due.ROOM);
    }
}
