/** Promises 24 and 25: an image, and all that it holds. */
public final class ImageTest {
    public static void main(String[] args) {
        SumOfTwoThatStand x = Due.of("a0,0,27;a1,1,10;l11");
        Due.is("image()", x.image(), 3);
        Due.street(x, "n;l20;a0,0,50;");
        x.row(1);
        x.feed('n');
        x.burn(7);
        x.house(0, 9);
        Due.is("restore()", x.restore(), 3);
        int[] counts = {3, 3, 4, 1, 1, 14, 1, 1};
        for (int what = 0; what < counts.length; what++) {
            Due.is("count(" + what + ")", x.count(what), counts[what]);
        }
        Due.is("refusals stay", x.count(11) * 10 + x.count(12), 11);
        int[] second = {1, 0, 4, 1, 1, 1, 0, 0};
        for (int what = 0; what < second.length; what++) {
            Due.is("house(2, " + what + ")", x.house(2, what), second[what]);
        }
        x.burn(2);
        Due.is("restore() again", x.restore(), 3);
        Due.is("it stands", x.house(2, 5), 1);
        x.burn(0);
        Due.is("image() of none", x.image(), 3);
        Due.is("letters stay", Due.street(x, ";"), 1);
        Due.is("restore() of none", x.restore(), 3);
        Due.is("none stands", x.count(1), 0);
        Due.is("an image of another", new SumOfTwoThatStand().restore(), Due.STATE);
        Due.refused("restore()", () -> Due.of("a0,0,00"), SumOfTwoThatStand::restore, Due.STATE);
        Due.end();
    }
}
