import java.util.Random;

/** Long runs of calls, drawn from set seeds, on the class and on the plain street side by side. */
public final class PlainTest {
    private static final String[] PIECES = {"a", "b", "l", "n;", ";", ",", "0", "1", "00", "a0,0,00;", "a1,1,10;", "b1;", "l01;", "x"};

    private final Random random;
    private final SumOfTwoThatStand x = new SumOfTwoThatStand();
    private final Plain plain = new Plain();
    private final int run;
    private final boolean manyHouses;

    private PlainTest(int run) {
        this.run = run;
        this.random = new Random(run);
        this.manyHouses = run % 3 != 0;
    }

    public static void main(String[] args) {
        for (int run = 0; run < 1500; run++) {
            PlainTest test = new PlainTest(run);
            for (int call = 0; call < 150; call++) {
                test.call();
            }
            test.all();
        }
        Due.end();
    }

    private int below(int n) {
        return random.nextInt(n);
    }

    private int aHouse() {
        return below(20) == 0 ? below(40) - 20 : below(plain.world.houses.size() + (below(4) == 0 ? 1 : 0));
    }

    /** Mostly in range, at times a step or far outside. */
    private int from(int least, int greatest) {
        switch (below(30)) {
            case 0: return least - 1;
            case 1: return greatest + 1;
            case 2: return random.nextInt();
            default: return least + below(greatest - least + 1);
        }
    }

    private void is(String call, int got, int want) {
        Due.is("run " + run + ": " + call, got, want);
    }

    private void call() {
        int a = aHouse();
        int b = below(3) == 0 ? a : aHouse();
        int n;
        int v;
        switch (below(manyHouses ? 20 : 17)) {
            case 0: n = from(0, 1); v = from(0, 2); is("law(" + n + ", " + v + ")", x.law(n, v), plain.law(n, v)); break;
            case 1: is("may(" + a + ", " + b + ")", x.may(a, b), plain.may(a, b)); break;
            case 2: is("cost(" + a + ", " + b + ")", x.cost(a, b), plain.cost(a, b)); break;
            case 3:
                if (below(3) == 0) {
                    is("burn(" + a + ")", x.burn(a), plain.fire(a, true));
                }
                break;
            case 4: is("hangs(" + a + ")", x.hangs(a), plain.fire(a, false)); break;
            case 5: is("save()", x.save(), plain.world.save()); break;
            case 6: n = from(1, 30); is("more(" + n + ")", x.more(n), plain.more(n)); break;
            case 7: n = from(1, 300); is("more(" + n + ")", x.more(n), plain.more(n)); break;
            case 8: is("orders()", x.orders(), plain.world.orders()); break;
            case 9: n = from(1, 40); v = random.nextInt(); int w = from(0, 1);
                is("seeds(" + n + ", " + v + ", " + w + ")", x.seeds(n, v, w), plain.seeds(n, v, w)); break;
            case 10: n = from(0, 7); is("house(" + a + ", " + n + ")", x.house(a, n), plain.house(a, n)); break;
            case 11: n = from(0, 16); is("count(" + n + ")", x.count(n), plain.count(n)); break;
            case 12: images(); break;
            case 13: rows(); break;
            case 14: case 15: letters(); break;
            default: n = from(0, 5); v = from(0, 9);
                is("add(" + a + ", " + b + ", " + n + ", " + v + ")", x.add(a, b, n, v), plain.add(a, b, n, v)); break;
        }
    }

    private void images() {
        int which = below(6);
        if (which == 0) {
            is("image()", x.image(), plain.image());
        } else if (which == 1) {
            is("restore()", x.restore(), plain.restore());
        }
    }

    private void rows() {
        int number = below(15) == 0 ? from(1, 9999) : 1 + plain.row.stream().mapToInt(i -> i).limit(below(4)).sum();
        is("row(" + number + ")", x.row(number), plain.row(number));
        if (below(8) == 0) {
            is("judge()", x.judge(), plain.judge());
        }
    }

    private void letters() {
        StringBuilder text = new StringBuilder();
        for (int i = below(6); i >= 0; i--) {
            text.append(below(6) == 0 ? PIECES[below(PIECES.length)] : statement());
        }
        if (below(6) == 0) {
            text.setLength(below(text.length() + 1));
        }
        for (int i = 0; i < text.length(); i++) {
            int letter = below(300) == 0 ? from(0, 255) : text.charAt(i);
            is("feed(" + letter + ")", x.feed(letter), plain.feed(letter));
        }
        if (below(10) != 0) {
            is("street() of " + plain.letters, x.street(), plain.street());
        }
    }

    private String statement() {
        int a = Math.abs(aHouse());
        int b = below(2) == 0 ? a : Math.abs(aHouse());
        switch (below(12)) {
            case 0: return "b" + a + ";";
            case 1: return "l" + below(3) + (below(9) == 0 ? 2 : below(2)) + ";";
            case 2: return "n;";
            default: return (below(2) == 0 ? "n;a0,0," + below(6) + "0;" : "")
                    + "a" + (a < 10 && below(3) == 0 ? "0" : "") + a + "," + b + "," + below(below(9) == 0 ? 10 : 6) + below(10) + ";";
        }
    }

    private void all() {
        for (int what = -1; what < 20; what++) {
            is("count(" + what + ")", x.count(what), plain.count(what));
        }
        for (int i = 0; i < 8 * plain.world.houses.size(); i++) {
            is("house(" + i / 8 + ", " + i % 8 + ")", x.house(i / 8, i % 8), plain.house(i / 8, i % 8));
        }
    }
}
