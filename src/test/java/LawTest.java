/** Promise 5: laws, what they were and what they become. */
public final class LawTest {
    public static void main(String[] args) {
        SumOfTwoThatStand x = new SumOfTwoThatStand();
        Due.is("law(0, 2)", x.law(0, 2), 0);
        Due.is("law(0, 1)", x.law(0, 1), 2);
        Due.is("law(1, 1)", x.law(1, 1), 0);
        Due.is("law(1, 1) again", x.law(1, 1), 1);
        Due.is("count(3)", x.count(3), 1);
        Due.is("count(4)", x.count(4), 1);
        Due.is("law(0, 0)", x.law(0, 0), 1);
        Due.is("law(1, 0)", x.law(1, 0), 1);
        int[][] wrong = {{-1, 0}, {2, 0}, {0, -1}, {0, 3}, {1, -1}, {1, 2}, {Integer.MIN_VALUE, Integer.MAX_VALUE}};
        for (int[] w : wrong) {
            Due.refusedNew("law(" + w[0] + ", " + w[1] + ")", y -> y.law(w[0], w[1]), Due.OTHER);
        }
        Due.end();
    }
}
