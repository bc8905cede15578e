/** Promise 3: a street told in letters, and its faults. */
public final class StreetTest {
    public static void main(String[] args) {
        comes();
        beginsAnew();
        faultsOfForm();
        faultsOfSense();
        Due.end();
    }

    private static void comes() {
        SumOfTwoThatStand x = new SumOfTwoThatStand();
        Due.is("all four", Due.street(x, "a0,00,27;a1,01,35;l21;b01;"), 4);
        Due.is("no letters more", x.count(6), 0);
        Due.is("came", x.count(0), 3);
        Due.is("stand", x.count(1), 1);
        Due.is("SUMS", x.count(3), 2);
        Due.is("FALLS", x.count(4), 1);
        Due.is("KIND", x.house(1, 0), 2);
        Due.is("FIGURE", x.house(1, 1), 7);
        Due.is("EARNED", x.house(1, 7), 14);
        Due.is("NUMBER", x.house(2, 2), 4);
        Due.is("TWO", x.house(2, 3), 1);
        Due.is("as many as there is room for", Due.street(x, "n;".repeat(32)), 32);
        SumOfTwoThatStand full = Due.of("a0,0,00;a1,1,00;a2,2,00;a3,3,00;a4,4,00;a5,5,00;a6,6,00;a7,7,00;a8,8,00;a9,9,00;a10,10,00");
        Due.is("two digits", full.house(11, 2), 2048);
        Due.is("two digits burn", Due.street(full, "b10;b11;b09;"), 3);
        Due.is("stand", full.count(1), 9);
    }

    private static void beginsAnew() {
        SumOfTwoThatStand x = Due.busy();
        x.street();
        Due.is("restored", x.restore(), 2);
        x.law(0, 1);
        x.law(1, 1);
        Due.is("n", Due.street(x, "n;"), 1);
        Due.is("came", x.count(0), 1);
        Due.is("EARNED", x.count(5), 0);
        Due.is("USES", x.house(0, 6), 0);
        Due.is("SUMS stay", x.count(3), 1);
        Due.is("FALLS stay", x.count(4), 1);
        Due.is("the image stays", x.restore(), 2);
        Due.is("the row stays", x.judge(), 1);
        Due.is("HOUSE 0 comes again", Due.street(x, "b0;n;a0,0,00;"), 3);
        Due.is("came", x.count(0), 2);
        Due.is("stand", x.count(1), 2);
    }

    private static void form(String text, int place) {
        SumOfTwoThatStand x = new SumOfTwoThatStand();
        Due.is("street() of " + text, Due.street(x, text), -1000 - place);
        Due.is("no letters after " + text, x.count(6), 0);
        Due.is("nothing came of " + text, x.count(0), 1);
        for (int what = 11; what <= 16; what++) {
            Due.is("nothing counted of " + text, x.count(what), 0);
        }
    }

    private static void faultsOfForm() {
        form("", 0);
        form(";", 0);
        form("x", 0);
        form("A0,0,00;", 0);
        form("n", 1);
        form("nn;", 1);
        form("n;;", 2);
        form("n; n;", 2);
        form("a", 1);
        form("a,", 1);
        form("a0", 2);
        form("a0;", 2);
        form("a012,0,00;", 3);
        form("a0,", 3);
        form("a0,,", 3);
        form("a0,0;", 4);
        form("a0,0,", 5);
        form("a0,0,0;", 6);
        form("a0,0,0,0;", 6);
        form("a0,0,000;", 7);
        form("a0,0,00", 7);
        form("a-1,0,00;", 1);
        form("b;", 1);
        form("b", 1);
        form("b000;", 3);
        form("b0", 2);
        form("b0,", 2);
        form("l;", 1);
        form("l0;", 2);
        form("l000;", 3);
        form("l0,0;", 2);
        form("a0,0,00;b", 9);
        form("a9,9,99;b99;l99;x", 16);
        form("b1;b1;n", 7);
        form("n;".repeat(31) + "a0", 64);
    }

    private static void sense(String text, int place) {
        SumOfTwoThatStand x = Due.busy();
        x.street();
        int came = x.count(0);
        int earned = x.count(5);
        int standing = x.count(1);
        Due.is("street() of " + text, Due.street(x, text), -2000 - place);
        Due.is("no letters after " + text, x.count(6), 0);
        Due.is("nothing came of " + text, x.count(0), came);
        Due.is("nothing burnt of " + text, x.count(1), standing);
        Due.is("nothing earned of " + text, x.count(5), earned);
        Due.is("SUMS after " + text, x.count(3), 0);
        Due.is("FALLS after " + text, x.count(4), 1);
        for (int what = 11; what <= 16; what++) {
            Due.is("nothing counted of " + text, x.count(what), 0);
        }
    }

    /** After busy() and its letters the street is 1 and 2 (HANGING), by LOSE. */
    private static void faultsOfSense() {
        sense("b2;", 0);
        sense("b12;", 0);
        sense("b99;", 0);
        sense("a2,0,00;", 0);
        sense("a0,2,00;", 0);
        sense("a99,0,00;", 0);
        sense("a0,1,60;", 0);
        sense("a0,0,00;", 0);
        sense("l30;", 0);
        sense("l02;", 0);
        sense("a0,1,00;l20;b0;b0;", 15);
        sense("l10;a0,0,00;", 4);
        sense("n;a0,0,00;b1;a1,1,00;", 13);
        sense("n;a0,0,10;a1,1,00;a1,0,00;", 18);
        sense("n;a0,0,00;a1,1,40;a2,0,00;", 18);
        SumOfTwoThatStand full = Due.of("a0,0,00;a1,1,00;a2,2,00;a3,3,00;a4,4,00;a5,5,00;a6,6,00;a7,7,00;a8,8,00;a9,9,00");
        Due.is("no room", Due.street(full, "a10,10,00;a0,1,00;"), -2010);
        Due.is("came", full.count(0), 11);
        Due.is("room anew", Due.street(full, "a10,10,00;n;a0,0,00;"), 3);
    }
}
