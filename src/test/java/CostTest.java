/** Promise 7: the fees of both. */
public final class CostTest {
    public static void main(String[] args) {
        SumOfTwoThatStand x = Due.of("a0,0,27;a1,0,34;a1,1,10;a3,1,59");
        Due.is("LENT twice, its sum a hut that fell", x.cost(1, 1), 14);
        Due.is("PROUD twice, its sum stands", x.cost(2, 2), Due.STATE);
        Due.is("HANGING and HOUSE", x.cost(4, 0), 0);
        Due.is("LENT and HANGING", x.cost(1, 4), 7);
        Due.is("PROUD and HOUSE", x.cost(2, 0), 9);
        SumOfTwoThatStand y = Due.of("a0,0,27;a1,0,34");
        Due.is("LENT twice", Due.of("a0,0,27").cost(1, 1), 14);
        Due.is("PROUD twice", y.cost(2, 2), 18);
        Due.is("PROUD of odd", y.cost(2, 1), Due.STATE);
        Due.is("HUT of figure", Due.of("a0,0,19").cost(1, 1), 0);
        Due.is("nothing is earned", y.count(5), 7);
        Due.refusedNew("cost(-1, 0)", z -> z.cost(-1, 0), Due.NOBODY);
        Due.refusedNew("cost(0, 12)", z -> z.cost(0, 12), Due.NOBODY);
        Due.refused("cost() of a number that stands", () -> Due.of("a0,0,00"), z -> z.cost(0, 0), Due.STATE);
        Due.refused("cost() of one that fell", () -> Due.of("a0,0,00;b1"), z -> z.cost(1, 0), Due.STATE);
        Due.refused("cost() of a CLOSED", () -> Due.of("a0,0,40"), z -> z.cost(1, 0), Due.STATE);
        Due.refused("cost() against LATEST", () -> Due.of("a0,0,00;a0,1,00;l10"), z -> z.cost(1, 1), Due.STATE);
        Due.end();
    }
}
