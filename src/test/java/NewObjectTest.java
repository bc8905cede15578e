/** Promise 1: a new object has HOUSE 0 alone. */
public final class NewObjectTest {
    public static void main(String[] args) {
        SumOfTwoThatStand x = new SumOfTwoThatStand();
        int[] house = {0, 0, 1, -4, -4, 1, 0, 0};
        for (int what = 0; what < house.length; what++) {
            Due.is("house(0, " + what + ")", x.house(0, what), house[what]);
        }
        int[] counts = {1, 1, 1, 0, 0, 0, 0, 0, -9, -9, -9, 0, 0, 0, 0, 0, 0};
        for (int what = 0; what < counts.length; what++) {
            Due.is("count(" + what + ")", x.count(what), counts[what]);
        }
        Due.is("house(1, 0)", x.house(1, 0), Due.NOBODY);
        Due.is("restore()", x.restore(), Due.STATE);
        Due.is("judge()", x.judge(), Due.NONE);
        Due.is("street()", x.street(), -1000);
        SumOfTwoThatStand other = new SumOfTwoThatStand();
        x.add(0, 0, 0, 0);
        Due.is("count(0) of another", other.count(0), 1);
        Due.end();
    }
}
