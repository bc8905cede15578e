/** Promises 9 to 11: fires, what hangs on which, which to save. */
public final class BurnTest {
    private static void is(String text, int house, int bits) {
        SumOfTwoThatStand x = Due.of(text);
        int standing = x.count(1);
        Due.is(text + " hangs(" + house + ")", x.hangs(house), bits);
        Due.is(text + " stays", x.count(1), standing);
        Due.is(text + " burn(" + house + ")", x.burn(house), Integer.bitCount(bits));
        for (int h = 0; h < x.count(0); h++) {
            if ((bits >> h & 1) == 1) {
                Due.is(text + " fell " + h, x.house(h, 5), 0);
            }
        }
        Due.is(text + " left", x.count(1), standing - Integer.bitCount(bits));
    }

    public static void main(String[] args) {
        String mixed = "a0,0,00;a1,0,50;a2,2,00;a2,1,50;a4,1,50";
        is(mixed, 0, 0b110101);
        is(mixed, 1, 0b110110);
        is(mixed, 2, 0b110100);
        is(mixed, 3, 0b001000);
        is(mixed, 5, 0b100000);
        is(mixed + ";l01", 0, 0b111111);
        is(mixed + ";l01", 1, 0b111110);
        is(mixed + ";l01", 2, 0b111100);
        is(mixed + ";l01", 4, 0b110000);
        longAgo();
        dearest();
        refusals();
        Due.end();
    }

    private static void longAgo() {
        // The hut 1 fell behind its sum: by it nothing else falls, but at the next fire all are looked at.
        String hut = "a0,0,10;a1,1,50;a0,0,00;a2,2,00";
        is(hut, 3, 0b01100);
        is(hut + ";l01", 3, 0b11100);
        is("a0,0,10;a1,1,00;a2,0,00", 0, 0b00001);
        is("a0,0,10;a1,1,00;a2,0,00;l01", 0, 0b01101);
        is("a0,0,00;a1,0,00;b1;l01", 0, 0b00101);
        is("a0,0,00;a1,0,00;b1", 0, 0b00001);
        is("a0,0,00;a1,0,00;b1;a0,0,00;l01", 3, 0b01100);
    }

    private static void dearest() {
        Due.is("save() of a new one", new SumOfTwoThatStand().save(), 0);
        Due.is("least of several", Due.of("a0,0,00;a1,1,00").save(), 0);
        Due.is("most", Due.of("a0,0,00;a1,1,50;a1,2,50").save(), 1);
        Due.is("without those that fell", Due.of("a0,0,00;a1,1,00;b0").save(), 1);
        Due.is("all would fall", Due.of("a0,0,00;a1,1,00;l01").save(), 0);
        SumOfTwoThatStand none = Due.of("b0");
        Due.is("save() of none", none.save(), Due.NONE);
        Due.is("save() of none, again", none.save(), Due.NONE);
        Due.is("no refusal", none.count(13), 0);
    }

    private static void refusals() {
        Due.Maker fallen = () -> Due.of("a0,0,00;b1");
        Due.refused("burn() of one that fell", fallen, y -> y.burn(1), Due.STATE);
        Due.refused("hangs() of one that fell", fallen, y -> y.hangs(1), Due.STATE);
        for (int house : new int[] {-1, 3, 12, 32, Integer.MIN_VALUE, Integer.MAX_VALUE}) {
            Due.refusedNew("burn(" + house + ")", y -> y.burn(house), Due.NOBODY);
            Due.refusedNew("hangs(" + house + ")", y -> y.hangs(house), Due.NOBODY);
        }
    }
}
