import java.util.Arrays;

/** What the tests share: answers that are due, refusals that change nothing else, streets told in letters. */
final class Due {
    interface Maker {
        SumOfTwoThatStand make();
    }

    interface Call {
        int on(SumOfTwoThatStand x);
    }

    static final int NOBODY = -1;
    static final int OTHER = -2;
    static final int STATE = -3;
    static final int BELOW = -4;
    static final int ROOM = -6;
    static final int NONE = -9;

    private static int wrong = 0;

    private Due() {
    }

    static void is(String call, long got, long want) {
        if (got != want) {
            wrong++;
            if (wrong < 100) {
                System.out.println(call + " answered " + got + ", due is " + want);
            }
        }
    }

    static void end() {
        if (wrong != 0) {
            System.out.println(wrong + " answers are not as due");
            System.exit(1);
        }
    }

    /** The call is made on one of two twins: but for the one refusal they must stay alike to the last. */
    static void refused(String call, Maker maker, Call refusedCall, int refusal) {
        SumOfTwoThatStand x = maker.make();
        SumOfTwoThatStand twin = maker.make();
        is(call, refusedCall.on(x), refusal);
        for (int what = 11; what <= 16; what++) {
            int more = what == 10 - refusal ? 1 : 0;
            is(call + ": count(" + what + ")", x.count(what), twin.count(what) + more);
        }
        alike(call, x, twin);
        is(call + ": the letters", x.street(), twin.street());
        is(call + ": the row", x.judge(), twin.judge());
        alike(call + ", then street()", x, twin);
        is(call + ": the image", x.restore(), twin.restore());
        alike(call + ", then restore()", x, twin);
    }

    static void refusedNew(String call, Call refusedCall, int refusal) {
        refused(call, SumOfTwoThatStand::new, refusedCall, refusal);
        refused(call + " of a full object", Due::busy, refusedCall, refusal);
    }

    /** The call is made twice: each time one refusal more is counted. */
    static void counted(String call, SumOfTwoThatStand x, Call refusedCall, int refusal) {
        int before = x.count(10 - refusal);
        is(call, refusedCall.on(x), refusal);
        is(call + ", again", refusedCall.on(x), refusal);
        is(call + ": count", x.count(10 - refusal), before + 2);
    }

    /** An object in which all that can be held is held: houses, laws, an image, letters, a row. */
    static SumOfTwoThatStand busy() {
        SumOfTwoThatStand x = new SumOfTwoThatStand();
        x.add(0, 0, 2, 3);
        x.image();
        x.add(0, 1, 3, 4);
        x.law(1, 1);
        letters(x, "l01;n;a0,0,59;");
        x.row(1);
        x.row(3);
        return x;
    }

    static SumOfTwoThatStand letters(SumOfTwoThatStand x, String text) {
        for (int i = 0; i < text.length(); i++) {
            x.feed(text.charAt(i));
        }
        return x;
    }

    static int street(SumOfTwoThatStand x, String text) {
        return letters(x, text).street();
    }

    /** A street of these statements, told so many at a time that the letters have room. */
    static SumOfTwoThatStand of(String text) {
        SumOfTwoThatStand x = new SumOfTwoThatStand();
        for (String statement : text.split(";")) {
            is("street() of " + statement, street(x, statement + ";"), 1);
        }
        return x;
    }

    private static void alike(String call, SumOfTwoThatStand x, SumOfTwoThatStand twin) {
        int[] got = told(x);
        int[] want = told(twin);
        if (!Arrays.equals(got, want)) {
            is(call + ": told " + Arrays.toString(got) + ", due is " + Arrays.toString(want), 1, 0);
        }
    }

    private static int[] told(SumOfTwoThatStand x) {
        int came = x.count(0);
        int[] all = new int[8 + came * 8];
        for (int what = 0; what < 8; what++) {
            all[what] = x.count(what);
        }
        for (int i = 0; i < came * 8; i++) {
            all[8 + i] = x.house(i / 8, i % 8);
        }
        return all;
    }
}
