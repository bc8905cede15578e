/** Promise 8: a new house comes, its two are used, earn, and a hut falls. */
public final class AddTest {
    public static void main(String[] args) {
        SumOfTwoThatStand x = new SumOfTwoThatStand();
        Due.is("first", x.add(0, 0, 1, 9), 1);
        Due.is("a hut and one", x.add(1, 0, 5, 0), 2);
        Due.is("the hut fell", x.house(1, 5), 0);
        Due.is("its USES", x.house(1, 6), 1);
        Due.is("USES of the other", x.house(0, 6), 3);
        Due.is("nothing else fell", x.count(1), 2);
        Due.is("its number may be again", x.add(0, 0, 1, 0), 3);
        Due.is("a hut with itself", x.add(3, 3, 3, 5), 4);
        Due.is("it was used twice", x.house(3, 6), 2);
        Due.is("it fell", x.house(3, 5), 0);
        Due.is("twice of PROUD", x.add(4, 4, 2, 6), 5);
        Due.is("EARNED by PROUD twice", x.house(4, 7), 22);
        Due.is("EARNED by LENT", x.add(5, 0, 0, 0), 6);
        Due.is("EARNED by LENT", x.house(5, 7), 6);
        Due.is("all EARNED", x.count(5), 28);
        Due.is("TWO as given", x.house(6, 3) * 10 + x.house(6, 4), 50);
        refusals();
        full();
        Due.end();
    }


    private static void refusals() {
        Due.refusedNew("add(-1, 0, 9, 99)", y -> y.add(-1, 0, 9, 99), Due.NOBODY);
        Due.refusedNew("add(0, 3, 9, 99)", y -> y.add(0, 3, 9, 99), Due.NOBODY);
        Due.refusedNew("add(0, 0, -1, 99)", y -> y.add(0, 0, -1, 99), Due.OTHER);
        Due.refusedNew("add(0, 0, 6, -1)", y -> y.add(0, 0, 6, -1), Due.OTHER);
        Due.refusedNew("add(0, 0, 5, -1)", y -> y.add(0, 0, 5, -1), Due.BELOW);
        Due.refusedNew("add(0, 0, 0, 10)", y -> y.add(0, 0, 0, 10), Due.ROOM);
        Due.Maker fallen = () -> Due.of("a0,0,00;b1");
        Due.refused("add() of one that fell", fallen, y -> y.add(1, 0, 0, 0), Due.STATE);
        Due.refused("add() of one that fell, KIND", fallen, y -> y.add(1, 0, 6, 0), Due.OTHER);
        Due.refused("add() of one that fell, FIGURE", fallen, y -> y.add(1, 0, 0, -1), Due.BELOW);
        Due.refused("add() of one that fell, FIGURE", fallen, y -> y.add(1, 0, 0, 10), Due.ROOM);
        Due.refused("add() of a number that stands", () -> Due.of("a0,0,00"), y -> y.add(0, 0, 0, 0), Due.STATE);
        Due.refused("add() against DOUBLES", () -> Due.of("a0,0,00;l20"), y -> y.add(0, 1, 0, 0), Due.STATE);
    }

    private static SumOfTwoThatStand twelve() {
        SumOfTwoThatStand x = new SumOfTwoThatStand();
        for (int i = 0; i < 11; i++) {
            x.add(i, i, 0, 0);
        }
        return x;
    }

    private static void full() {
        Due.is("twelve", twelve().count(0), 12);
        Due.refused("the 13th", AddTest::twelve, y -> y.add(0, 1, 0, 0), Due.ROOM);
        Due.refused("the 13th that may not be", AddTest::twelve, y -> y.add(0, 0, 0, 0), Due.STATE);
        SumOfTwoThatStand x = twelve();
        x.burn(11);
        Due.is("those that fell keep their place", x.add(0, 1, 0, 0), Due.ROOM);
        Due.is("may() looks at no room", x.may(0, 1), 1);
        Due.is("cost() looks at no room", x.cost(0, 1), 0);
    }
}
