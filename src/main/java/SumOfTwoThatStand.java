/**
 * Houses with numbers in a street: a new one has the sum of two that stand, or of one with itself.
 * What each call answers is told by the document, promise by promise; README.md tells how to use it.
 */
public final class SumOfTwoThatStand {
    private static final int NOBODY = -1;
    private static final int OTHER = -2;
    private static final int STATE = -3;
    private static final int BELOW = -4;
    private static final int ROOM = -6;
    private static final int NONE = -9;

    private static final int HOUSE = 0;
    private static final int HUT = 1;
    private static final int LENT = 2;
    private static final int PROUD = 3;
    private static final int CLOSED = 4;
    private static final int HANGING = 5;

    private static final int LATEST = 1;
    private static final int DOUBLES = 2;
    private static final int LOSE = 1;

    private static final int NO_TWO = -4;
    private static final int MOST_HOUSES = 12;
    private static final int MOST_LETTERS = 64;
    private static final int MOST_IN_ROW = 12;
    private static final int GREATEST_NUMBER = 9999;

    private final Street live = new Street();
    private final Street kept = new Street();
    private final Street mind = new Street();
    private final Letters letters = new Letters();
    private final Row told = new Row();
    private final Chains chains = new Chains();
    private final Orders comings = new Orders();
    private final Game builders = new Game();
    private final int[] refusals = new int[7];
    private boolean isKept;

    public SumOfTwoThatStand() {
        isKept = false;
    }

    public int feed(int letter) {
        if (letter < 0) {
            return refuse(BELOW);
        }
        if (letter > 255 || !letters.hasRoom()) {
            return refuse(ROOM);
        }
        return letters.take(letter);
    }

    /** All comes in mind first: so a fault far behind leaves the street as it was. */
    public int street() {
        mind.become(live);
        int fault = letters.faultOfForm();
        if (fault == 0) {
            fault = letters.faultOfSense(mind);
        }
        letters.forget();
        if (fault != 0) {
            return fault;
        }
        live.become(mind);
        return letters.statementCount();
    }

    public int house(int house, int what) {
        if (!live.has(house)) {
            return refuse(NOBODY);
        }
        if (what < 0 || what > 7) {
            return refuse(OTHER);
        }
        return live.tell(house, what);
    }

    public int law(int what, int v) {
        if (what < 0 || what > 1) {
            return refuse(OTHER);
        }
        int was = what == 0 ? live.sumsLaw() : live.fallsLaw();
        int sums = what == 0 ? v : live.sumsLaw();
        int falls = what == 0 ? live.fallsLaw() : v;
        return live.changeLaws(sums, falls) ? was : refuse(OTHER);
    }

    public int may(int one, int other) {
        if (!live.has(one) || !live.has(other)) {
            return refuse(NOBODY);
        }
        if (!live.stands(one) || !live.stands(other)) {
            return refuse(STATE);
        }
        return live.mayBe(one, other) ? 1 : 0;
    }

    public int cost(int one, int other) {
        if (!live.has(one) || !live.has(other)) {
            return refuse(NOBODY);
        }
        if (!live.mayBe(one, other)) {
            return refuse(STATE);
        }
        return live.fee(one) + live.fee(other);
    }

    public int add(int one, int other, int kind, int figure) {
        if (!live.has(one) || !live.has(other)) {
            return refuse(NOBODY);
        }
        if (!Street.isKind(kind)) {
            return refuse(OTHER);
        }
        if (figure < 0) {
            return refuse(BELOW);
        }
        if (figure > 9) {
            return refuse(ROOM);
        }
        if (!live.mayBe(one, other)) {
            return refuse(STATE);
        }
        if (!live.build(one, other, kind, figure)) {
            return refuse(ROOM);
        }
        return live.cameCount() - 1;
    }

    public int burn(int house) {
        if (!live.has(house)) {
            return refuse(NOBODY);
        }
        if (!live.stands(house)) {
            return refuse(STATE);
        }
        return live.fire(house);
    }

    public int hangs(int house) {
        if (!live.has(house)) {
            return refuse(NOBODY);
        }
        if (!live.stands(house)) {
            return refuse(STATE);
        }
        return live.fallsWith(house);
    }

    public int save() {
        int dearest = NONE;
        int most = 0;
        for (int house = 0; house < live.cameCount(); house++) {
            int falling = live.stands(house) ? Integer.bitCount(live.fallsWith(house)) : 0;
            if (falling > most) {
                most = falling;
                dearest = house;
            }
        }
        return dearest;
    }

    public int fewest(int n) {
        int refusal = outside(n, 1, 100);
        return refusal != 0 ? refuse(refusal) : chains.shortest(1, n);
    }

    public int chain(int n, int i) {
        if (i < 0) {
            return refuse(BELOW);
        }
        int refusal = outside(n, 1, 100);
        if (refusal != 0) {
            return refuse(refusal);
        }
        return i < chains.shortest(1, n) ? chains.numberAt(i) : NONE;
    }

    public int way(int n, int what) {
        int refusal = isOneOfTwo(what) ? outside(n, 1, 300) : OTHER;
        if (refusal != 0) {
            return refuse(refusal);
        }
        return what == 0 ? Chains.byHalves(n) : Chains.byFactors(n);
    }

    public int both(int n, int m) {
        int lesser = Math.min(n, m);
        int greater = Math.max(n, m);
        int refusal = lesser < 1 ? BELOW : outside(greater, 1, 30);
        return refusal != 0 ? refuse(refusal) : chains.shortest(lesser, greater);
    }

    public int far(int k) {
        int refusal = outside(k, 1, 12);
        return refusal != 0 ? refuse(refusal) : 1 << (k - 1);
    }

    public int can(int k, int what) {
        int refusal = isOneOfTwo(what) ? outside(k, 1, 7) : OTHER;
        if (refusal != 0) {
            return refuse(refusal);
        }
        long reached = chains.reachable(k);
        return what == 0 ? Long.bitCount(reached) : Long.numberOfTrailingZeros(~reached) + 1;
    }

    public int more(int n) {
        int refusal = outside(n, 1, 300);
        if (refusal != 0) {
            return refuse(refusal);
        }
        if (live.isThere(n)) {
            return 0;
        }
        if (live.comesNext(n)) {
            return 1;
        }
        return comesNextButOne(n) ? 2 : NONE;
    }

    public int orders() {
        return comings.of(live);
    }

    public int game(int n) {
        int refusal = outside(n, 2, 12);
        if (refusal != 0) {
            return refuse(refusal);
        }
        return builders.isWonByFirst(n) ? 1 : 0;
    }

    public int row(int number) {
        int refusal = outside(number, 1, GREATEST_NUMBER);
        if (refusal == 0 && !told.hasRoom()) {
            refusal = ROOM;
        }
        return refusal != 0 ? refuse(refusal) : told.take(number);
    }

    public int judge() {
        int place = told.firstWrong();
        told.forget();
        return place;
    }

    public int seeds(int n, int z, int what) {
        int refusal = isOneOfTwo(what) ? outside(n, 1, 40) : OTHER;
        if (refusal != 0) {
            return refuse(refusal);
        }
        mind.become(live);
        sow(mind, n, z);
        return what == 0 ? mind.standingCount() : mind.greatest();
    }

    public int image() {
        kept.become(live);
        isKept = true;
        return live.cameCount();
    }

    public int restore() {
        if (!isKept) {
            return refuse(STATE);
        }
        live.become(kept);
        return live.cameCount();
    }

    public int count(int what) {
        if (what > 10 && what < 17) {
            return refusals[what - 10];
        }
        switch (what) {
            case 0: return live.cameCount();
            case 1: return live.standingCount();
            case 2: return live.greatest();
            case 3: return live.sumsLaw();
            case 4: return live.fallsLaw();
            case 5: return live.allEarned();
            case 6: return letters.howMany();
            case 7: return told.howMany();
            default: return NONE;
        }
    }

    private int refuse(int refusal) {
        if (refusal < 0 && refusal > -refusals.length) {
            refusals[-refusal]++;
        }
        return refusal;
    }

    private static int outside(int number, int least, int greatest) {
        if (number < least) {
            return BELOW;
        }
        return number > greatest ? ROOM : 0;
    }

    private static boolean isOneOfTwo(int what) {
        return what == 0 || what == 1;
    }

    /** Every sum is tried as the first of both: it may be the latest, or a hut falls behind it. */
    private boolean comesNextButOne(int n) {
        for (int one = 0; one < live.cameCount(); one++) {
            for (int other = one; other < live.cameCount(); other++) {
                mind.become(live);
                if (mind.build(one, other, HOUSE, 0) && mind.comesNext(n)) {
                    return true;
                }
            }
        }
        return false;
    }

    private static void sow(Street ground, int times, int z) {
        int seed = z;
        for (int i = 0; i < times; i++) {
            seed = nextSeed(seed);
            int one = draw(seed, ground.cameCount());
            seed = nextSeed(seed);
            int other = draw(seed, ground.cameCount());
            ground.build(one, other, HOUSE, 0);
        }
    }

    private static int nextSeed(int seed) {
        return seed * 1103515245 + 12345;
    }

    private static int draw(int seed, int below) {
        return below < 1 ? 0 : ((seed & 0x7fffffff) >>> 16) % below;
    }

    /** The houses that came, and the laws: all that an image holds. */
    private static final class Street {
        private final int[] kinds = new int[MOST_HOUSES];
        private final int[] figures = new int[MOST_HOUSES];
        private final int[] numbers = new int[MOST_HOUSES];
        private final int[] firsts = new int[MOST_HOUSES];
        private final int[] seconds = new int[MOST_HOUSES];
        private final int[] uses = new int[MOST_HOUSES];
        private final int[] earned = new int[MOST_HOUSES];
        private int came;
        private int standing;
        private int sums;
        private int falls;

        Street() {
            beginAnew();
        }

        void beginAnew() {
            came = 0;
            standing = 0;
            place(1, NO_TWO, NO_TWO, HOUSE, 0);
        }

        void become(Street other) {
            System.arraycopy(other.kinds, 0, kinds, 0, MOST_HOUSES);
            System.arraycopy(other.figures, 0, figures, 0, MOST_HOUSES);
            System.arraycopy(other.numbers, 0, numbers, 0, MOST_HOUSES);
            System.arraycopy(other.firsts, 0, firsts, 0, MOST_HOUSES);
            System.arraycopy(other.seconds, 0, seconds, 0, MOST_HOUSES);
            System.arraycopy(other.uses, 0, uses, 0, MOST_HOUSES);
            System.arraycopy(other.earned, 0, earned, 0, MOST_HOUSES);
            came = other.came;
            standing = other.standing;
            sums = other.sums;
            falls = other.falls;
        }

        static boolean isKind(int kind) {
            return kind >= HOUSE && kind <= HANGING;
        }

        boolean has(int house) {
            return house >= 0 && house < came;
        }

        boolean stands(int house) {
            return has(house) && isIn(standing, house);
        }

        boolean hasRoom() {
            return came < MOST_HOUSES;
        }

        int cameCount() {
            return came;
        }

        int standingCount() {
            return Integer.bitCount(standing);
        }

        int standingBits() {
            return standing;
        }

        int sumsLaw() {
            return sums;
        }

        int fallsLaw() {
            return falls;
        }

        boolean changeLaws(int newSums, int newFalls) {
            if (newSums < 0 || newSums > DOUBLES || newFalls < 0 || newFalls > LOSE) {
                return false;
            }
            sums = newSums;
            falls = newFalls;
            return true;
        }

        int tell(int house, int what) {
            if (!has(house)) {
                return NOBODY;
            }
            switch (what) {
                case 0: return kinds[house];
                case 1: return figures[house];
                case 2: return numbers[house];
                case 3: return firsts[house];
                case 4: return seconds[house];
                case 5: return isIn(standing, house) ? 1 : 0;
                case 6: return uses[house];
                case 7: return earned[house];
                default: return OTHER;
            }
        }

        int greatest() {
            int most = 0;
            for (int house = 0; house < came; house++) {
                if (isIn(standing, house)) {
                    most = Math.max(most, numbers[house]);
                }
            }
            return most;
        }

        int allEarned() {
            int all = 0;
            for (int house = 0; house < came; house++) {
                all += earned[house];
            }
            return all;
        }

        boolean isThere(int number) {
            for (int house = 0; house < came; house++) {
                if (isIn(standing, house) && numbers[house] == number) {
                    return true;
                }
            }
            return false;
        }

        int fee(int house) {
            if (!has(house)) {
                return 0;
            }
            switch (kinds[house]) {
                case LENT: return figures[house];
                case PROUD: return 2 * figures[house] + 1;
                default: return 0;
            }
        }

        boolean mayBe(int one, int other) {
            if (!stands(one) || !stands(other) || !isLawful(one, other)) {
                return false;
            }
            int sum = numbers[one] + numbers[other];
            return sum <= GREATEST_NUMBER && lends(one, sum) && lends(other, sum) && !isThere(sum);
        }

        private boolean isLawful(int one, int other) {
            switch (sums) {
                case LATEST:
                    int latest = 31 - Integer.numberOfLeadingZeros(standing);
                    return one == latest || other == latest;
                case DOUBLES: return one == other;
                default: return true;
            }
        }

        private boolean lends(int house, int sum) {
            if (!has(house)) {
                return false;
            }
            switch (kinds[house]) {
                case HUT: return uses[house] == 0;
                case PROUD: return (sum & 1) == 0;
                case CLOSED: return false;
                default: return true;
            }
        }

        /** A new house comes, if all that it needs is so; else nothing changes. */
        boolean build(int one, int other, int kind, int figure) {
            if (!hasRoom() || !isKind(kind) || !mayBe(one, other)) {
                return false;
            }
            place(numbers[one] + numbers[other], one, other, kind, figure);
            use(one);
            use(other);
            // Behind both uses, as a hut lends once for both of its own double.
            loseHut(one);
            loseHut(other);
            return true;
        }

        private void place(int number, int one, int other, int kind, int figure) {
            if (!hasRoom()) {
                return;
            }
            numbers[came] = number;
            firsts[came] = one;
            seconds[came] = other;
            kinds[came] = kind;
            figures[came] = figure;
            uses[came] = 0;
            earned[came] = 0;
            standing |= 1 << came;
            came++;
        }

        private void use(int house) {
            if (has(house)) {
                uses[house]++;
                earned[house] += fee(house);
            }
        }

        private void loseHut(int house) {
            if (has(house) && kinds[house] == HUT) {
                standing &= ~(1 << house);
            }
        }

        int fire(int house) {
            int falling = fallsWith(house);
            standing &= ~falling;
            return Integer.bitCount(falling);
        }

        /** Once along the street is enough: a house's two came ahead of it. */
        int fallsWith(int burning) {
            if (!stands(burning)) {
                return 0;
            }
            int left = standing & ~(1 << burning);
            for (int house = 1; house < came; house++) {
                boolean hangs = falls == LOSE || kinds[house] == HANGING;
                if (hangs && !(isIn(left, firsts[house]) && isIn(left, seconds[house]))) {
                    left &= ~(1 << house);
                }
            }
            return standing & ~left;
        }

        /** Those of its two that stand: behind these alone it must come. */
        int aheadOf(int house) {
            if (!has(house)) {
                return 0;
            }
            return bitOf(firsts[house]) | bitOf(seconds[house]);
        }

        private int bitOf(int house) {
            return stands(house) ? 1 << house : 0;
        }

        boolean comesNext(int number) {
            if (!hasRoom()) {
                return false;
            }
            for (int one = 0; one < came; one++) {
                for (int other = one; other < came; other++) {
                    if (numbers[one] + numbers[other] == number && mayBe(one, other)) {
                        return true;
                    }
                }
            }
            return false;
        }

        private static boolean isIn(int bits, int house) {
            return house >= 0 && house < MOST_HOUSES && (bits >> house & 1) == 1;
        }
    }

    /** Letters or numbers told one by one, as long as there is room, until they are forgotten. */
    private static class Told {
        private final int[] all;
        private int length;

        Told(int most) {
            all = new int[Math.max(most, 0)];
        }

        boolean hasRoom() {
            return length < all.length;
        }

        int take(int one) {
            if (hasRoom()) {
                all[length] = one;
                length++;
            }
            return length;
        }

        void forget() {
            length = 0;
        }

        int howMany() {
            return length;
        }

        /** No letter and no number is below 0: so -1 is neither. */
        int toldAt(int place) {
            return place >= 0 && place < length ? all[place] : -1;
        }
    }

    /** A street told in letters: its statements are read one by one from where the reading is. */
    private static final class Letters extends Told {
        private static final int OF_FORM = -1000;
        private static final int OF_SENSE = -2000;

        private final int[] figures = new int[4];
        private int at;
        private int verb;
        private int figureCount;
        private int statements;

        Letters() {
            super(MOST_LETTERS);
        }

        int statementCount() {
            return statements;
        }

        /** 0, or the fault at the first letter with which no street can go on. */
        int faultOfForm() {
            at = 0;
            statements = 0;
            for (int i = 0; i < MOST_LETTERS && (i == 0 || at < howMany()); i++) {
                if (!readStatement()) {
                    return OF_FORM - at;
                }
                statements++;
            }
            return 0;
        }

        /** 0, or the fault at the first statement that can't come; those ahead of it have come then. */
        int faultOfSense(Street street) {
            at = 0;
            for (int i = 0; i < statements; i++) {
                int begin = at;
                if (!readStatement() || !comesTo(street)) {
                    return OF_SENSE - begin;
                }
            }
            return 0;
        }

        private boolean comesTo(Street street) {
            switch (verb) {
                case 'a': return street.build(figures[0], figures[1], figures[2], figures[3]);
                case 'b': return street.fire(figures[0]) > 0;
                case 'l': return street.changeLaws(figures[0], figures[1]);
                default:
                    street.beginAnew();
                    return true;
            }
        }

        /** Stops at the first letter that is wrong, so that its place can be told. */
        private boolean readStatement() {
            verb = toldAt(at);
            figureCount = 0;
            String form = formOf(verb);
            if (form.isEmpty()) {
                return false;
            }
            at++;
            for (int i = 0; i < form.length(); i++) {
                if (!readPart(form.charAt(i))) {
                    return false;
                }
            }
            return true;
        }

        /** What stands behind the first letter: h a house, d a digit, else the sign itself. */
        private static String formOf(int letter) {
            switch (letter) {
                case 'a': return "h,h,dd;";
                case 'b': return "h;";
                case 'l': return "dd;";
                case 'n': return ";";
                default: return "";
            }
        }

        private boolean readPart(char part) {
            if (part == 'h') {
                return readFigure(2);
            }
            if (part == 'd') {
                return readFigure(1);
            }
            if (toldAt(at) != part) {
                return false;
            }
            at++;
            return true;
        }

        private boolean readFigure(int mostDigits) {
            int figure = 0;
            int digits = 0;
            while (digits < mostDigits && isDigit(toldAt(at))) {
                figure = figure * 10 + toldAt(at) - '0';
                at++;
                digits++;
            }
            if (figureCount < figures.length) {
                figures[figureCount] = figure;
                figureCount++;
            }
            return digits > 0;
        }

        private static boolean isDigit(int letter) {
            return letter >= '0' && letter <= '9';
        }
    }

    /** Numbers in any order of size, to be judged. */
    private static final class Row extends Told {
        Row() {
            super(MOST_IN_ROW);
        }

        int firstWrong() {
            for (int place = 0; place < howMany(); place++) {
                boolean isRight = place == 0 ? toldAt(0) == 1 : isNew(place) && isSum(place);
                if (!isRight) {
                    return place;
                }
            }
            return NONE;
        }

        private boolean isNew(int place) {
            for (int ahead = 0; ahead < place; ahead++) {
                if (toldAt(ahead) == toldAt(place)) {
                    return false;
                }
            }
            return true;
        }

        private boolean isSum(int place) {
            for (int one = 0; one < place; one++) {
                for (int other = one; other < place; other++) {
                    if (toldAt(one) + toldAt(other) == toldAt(place)) {
                        return true;
                    }
                }
            }
            return false;
        }
    }

    /** Rows of numbers from 1 that rise by sums of two; one row serves every search. */
    private static final class Chains {
        private static final int LONGEST = 12;
        private static final int DEEPEST = 40;

        private final int[] numbers = new int[LONGEST];

        Chains() {
            numbers[0] = 1;
        }

        int numberAt(int i) {
            return i >= 0 && i < numbers.length ? numbers[i] : NONE;
        }

        /** How many numbers the shortest chain to the goal by way of another has; it stays in the row. */
        int shortest(int by, int goal) {
            for (int most = 1; most <= LONGEST; most++) {
                if (reaches(numbers, 1, most, by, goal)) {
                    return most;
                }
            }
            return 0;
        }

        /** Lesser numbers first: so the first chain found is the first of its length. */
        private static boolean reaches(int[] chain, int length, int most, int by, int goal) {
            if (length < 1 || length > chain.length) {
                return false;
            }
            int last = chain[length - 1];
            if (last == goal) {
                return true;
            }
            if (length >= most || length >= chain.length) {
                return false;
            }
            int greatest = Math.min(2 * last, last < by ? by : goal);
            for (int next = leastUseful(last, most - length - 1, goal); next <= greatest; next++) {
                if (isSum(chain, length, next)) {
                    chain[length] = next;
                    if (reaches(chain, length + 1, most, by, goal)) {
                        return true;
                    }
                }
            }
            return false;
        }

        /** From a lesser one not even doubling all along comes to the goal. */
        private static int leastUseful(int last, int left, int goal) {
            int doubled = 1 << left;
            return Math.max(last + 1, (goal + doubled - 1) >> left);
        }

        /** A chain rises: so one look from both ends is enough. */
        private static boolean isSum(int[] chain, int length, int number) {
            int low = 0;
            int high = Math.min(length, chain.length) - 1;
            while (low <= high) {
                int sum = chain[low] + chain[high];
                if (sum == number) {
                    return true;
                }
                if (sum < number) {
                    low++;
                } else {
                    high--;
                }
            }
            return false;
        }

        /** The numbers (1 is the lowest bit) in chains of so many or fewer; 7 come to 64, the highest bit. */
        long reachable(int most) {
            return reached(numbers, 1, Math.min(most, 7));
        }

        private static long reached(int[] chain, int length, int most) {
            if (length < 1 || length > chain.length) {
                return 0L;
            }
            int last = chain[length - 1];
            long all = 1L << (last - 1);
            if (length >= most || length >= chain.length) {
                return all;
            }
            for (int next = last + 1; next <= 2 * last; next++) {
                if (isSum(chain, length, next)) {
                    chain[length] = next;
                    all |= reached(chain, length + 1, most);
                }
            }
            return all;
        }

        /** 1, then a doubling for each further bit, and a 1 more for each of these that is set. */
        static int byHalves(int n) {
            return n < 1 ? 0 : 31 - Integer.numberOfLeadingZeros(n) + Integer.bitCount(n);
        }

        static int byFactors(int n) {
            return splitDown(n, 0);
        }

        private static int splitDown(int n, int depth) {
            if (n <= 1 || depth > DEEPEST) {
                return 1;
            }
            int factor = leastFactor(n);
            if (factor < 2 || factor == n) {
                return splitDown(n - 1, depth + 1) + 1;
            }
            return splitDown(factor, depth + 1) + splitDown(n / factor, depth + 1) - 1;
        }

        private static int leastFactor(int n) {
            for (int factor = 2; factor * factor <= n; factor++) {
                if (n % factor == 0) {
                    return factor;
                }
            }
            return n;
        }
    }

    /** Counts by sets of those that came already: each set is reached in as many orders as its lesser ones. */
    private static final class Orders {
        private final int[] ways = new int[1 << MOST_HOUSES];

        int of(Street street) {
            int standing = street.standingBits() & (ways.length - 1);
            for (int came = 0; came <= standing; came++) {
                ways[came] = 0;
            }
            ways[0] = 1;
            for (int came = 0; came < standing; came++) {
                if (ways[came] > 0) {
                    letNextCome(street, came, standing);
                }
            }
            return ways[standing];
        }

        private void letNextCome(Street street, int came, int standing) {
            int missing = standing & ~came;
            for (int house = 0; house < MOST_HOUSES; house++) {
                boolean isNext = (missing >> house & 1) == 1 && (street.aheadOf(house) & ~came) == 0;
                int with = came | 1 << house;
                if (isNext && with < ways.length) {
                    ways[with] += ways[came];
                }
            }
        }
    }

    /** Two who build by turns: a number stands as the bit of its own place. */
    private static final class Game {
        private static final int GREATEST = 12;

        // Bit 1 is always there and n never yet: so the bits between tell all.
        private final boolean[] wins = new boolean[1 << (GREATEST - 2)];

        boolean isWonByFirst(int n) {
            if (n < 2 || n > GREATEST) {
                return false;
            }
            // More numbers ahead of fewer, as each turn adds one.
            for (int between = (1 << (n - 2)) - 1; between >= 0; between--) {
                wins[between] = isWon(between << 2 | 2, n);
            }
            return wins[0];
        }

        /** Whose turn it is wins by n itself, or by a number behind which the other doesn't win. */
        private boolean isWon(int there, int n) {
            int open = sumsOf(there, n) & ~there;
            if ((open >> n & 1) == 1) {
                return true;
            }
            for (int number = 2; number < n; number++) {
                int between = (there | 1 << number) >> 2;
                if ((open >> number & 1) == 1 && between < wins.length && !wins[between]) {
                    return true;
                }
            }
            return false;
        }

        private static int sumsOf(int there, int n) {
            int sums = 0;
            for (int number = 1; number < n; number++) {
                if ((there >> number & 1) == 1) {
                    sums |= there << number;
                }
            }
            return sums;
        }
    }
}
