import java.util.HashSet;
import java.util.Set;

/** Promise 20: two who build by turns, played to the end. */
public final class GameTest {
    public static void main(String[] args) {
        for (int n = 2; n <= 12; n++) {
            Set<Integer> there = new HashSet<>();
            there.add(1);
            SumOfTwoThatStand x = new SumOfTwoThatStand();
            Due.is("game(" + n + ")", x.game(n), wins(there, n) ? 1 : 0);
            Due.is("game(" + n + ") again", x.game(n), x.game(n));
        }
        SumOfTwoThatStand x = new SumOfTwoThatStand();
        for (int n = 12; n >= 2; n--) {
            Due.is("game(" + n + ") behind greater ones", x.game(n), new SumOfTwoThatStand().game(n));
        }
        Due.refusedNew("game(1)", y -> y.game(1), Due.BELOW);
        Due.refusedNew("game(least)", y -> y.game(Integer.MIN_VALUE), Due.BELOW);
        Due.refusedNew("game(13)", y -> y.game(13), Due.ROOM);
        Due.refusedNew("game(greatest)", y -> y.game(Integer.MAX_VALUE), Due.ROOM);
        Due.end();
    }

    private static boolean wins(Set<Integer> there, int n) {
        Set<Integer> sums = new HashSet<>();
        for (int a : there) {
            for (int b : there) {
                if (a + b <= n && !there.contains(a + b)) {
                    sums.add(a + b);
                }
            }
        }
        if (sums.contains(n)) {
            return true;
        }
        for (int sum : sums) {
            Set<Integer> then = new HashSet<>(there);
            then.add(sum);
            if (!wins(then, n)) {
                return true;
            }
        }
        return false;
    }
}
