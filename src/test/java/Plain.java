import java.util.ArrayList;
import java.util.HashMap;
import java.util.HashSet;
import java.util.List;
import java.util.Map;
import java.util.Set;

/** The street once more, told another way: houses as objects, falls again and again, text by a pattern. */
final class Plain {
    static final String FORM = "(a[0-9]{1,2},[0-9]{1,2},[0-9]{2};|b[0-9]{1,2};|l[0-9]{2};|n;)+";
    private static final String[] ENDS = {"a0,0,00;", "a00,00,00;", "b0;", "b00;", "l00;", "n;"};

    static class House {
        int kind;
        int figure;
        int number;
        House first;
        House second;
        boolean stands = true;
        int uses;
        int earned;

        boolean lends(int sum) {
            return kind == 1 ? uses == 0 : kind == 3 ? sum % 2 == 0 : kind != 4;
        }

        int fee() {
            return kind == 2 ? figure : kind == 3 ? figure * 2 + 1 : 0;
        }

        boolean lacks(Set<House> falling) {
            return first != null && (gone(first, falling) || gone(second, falling));
        }

        private static boolean gone(House house, Set<House> falling) {
            return !house.stands || falling.contains(house);
        }
    }

    static final class World {
        List<House> houses = new ArrayList<>();
        int sums;
        int falls;

        World() {
            anew();
        }

        void anew() {
            houses = new ArrayList<>();
            House zero = new House();
            zero.number = 1;
            houses.add(zero);
        }

        World copy() {
            World w = new World();
            w.houses.clear();
            w.sums = sums;
            w.falls = falls;
            for (House h : houses) {
                House c = new House();
                c.kind = h.kind;
                c.figure = h.figure;
                c.number = h.number;
                c.first = h.first == null ? null : w.houses.get(houses.indexOf(h.first));
                c.second = h.second == null ? null : w.houses.get(houses.indexOf(h.second));
                c.stands = h.stands;
                c.uses = h.uses;
                c.earned = h.earned;
                w.houses.add(c);
            }
            return w;
        }

        boolean has(int house) {
            return house >= 0 && house < houses.size();
        }

        boolean stands(int house) {
            return has(house) && houses.get(house).stands;
        }

        List<House> standing() {
            List<House> all = new ArrayList<>();
            for (House h : houses) {
                if (h.stands) {
                    all.add(h);
                }
            }
            return all;
        }

        boolean may(int one, int other) {
            if (!stands(one) || !stands(other)) {
                return false;
            }
            House a = houses.get(one);
            House b = houses.get(other);
            int sum = a.number + b.number;
            List<House> all = standing();
            for (House h : all) {
                if (h.number == sum) {
                    return false;
                }
            }
            House latest = all.get(all.size() - 1);
            boolean lawful = sums == 0 || (sums == 1 ? a == latest || b == latest : a == b);
            return lawful && sum <= 9999 && a.lends(sum) && b.lends(sum);
        }

        void build(int one, int other, int kind, int figure) {
            House a = houses.get(one);
            House b = houses.get(other);
            House h = new House();
            h.kind = kind;
            h.figure = figure;
            h.number = a.number + b.number;
            h.first = a;
            h.second = b;
            houses.add(h);
            for (House used : List.of(a, b)) {
                used.uses++;
                used.earned += used.fee();
                if (used.kind == 1) {
                    used.stands = false;
                }
            }
        }

        Set<House> falling(int house) {
            Set<House> falling = new HashSet<>();
            falling.add(houses.get(house));
            boolean more = true;
            while (more) {
                more = false;
                for (House h : standing()) {
                    if (!falling.contains(h) && (falls == 1 || h.kind == 5) && h.lacks(falling)) {
                        falling.add(h);
                        more = true;
                    }
                }
            }
            return falling;
        }

        int burn(int house) {
            Set<House> falling = falling(house);
            for (House h : falling) {
                h.stands = false;
            }
            return falling.size();
        }

        int hangs(int house) {
            int bits = 0;
            for (House h : falling(house)) {
                bits |= 1 << houses.indexOf(h);
            }
            return bits;
        }

        int save() {
            int best = -9;
            for (int house = 0; house < houses.size(); house++) {
                if (stands(house) && (best == -9 || falling(house).size() > falling(best).size())) {
                    best = house;
                }
            }
            return best;
        }

        int greatest() {
            int most = 0;
            for (House h : standing()) {
                most = Math.max(most, h.number);
            }
            return most;
        }

        boolean reaches(int n, int steps) {
            for (House h : standing()) {
                if (h.number == n && steps == 0) {
                    return true;
                }
            }
            if (steps == 0 || houses.size() == 12) {
                return false;
            }
            for (int one = 0; one < houses.size(); one++) {
                for (int other = 0; other < houses.size(); other++) {
                    if (may(one, other)) {
                        World then = copy();
                        then.build(one, other, 0, 0);
                        int last = then.houses.get(then.houses.size() - 1).number;
                        if (steps == 1 ? last == n : then.reaches(n, steps - 1)) {
                            return true;
                        }
                    }
                }
            }
            return false;
        }

        int more(int n) {
            for (int steps = 0; steps <= 2; steps++) {
                if (reaches(n, steps)) {
                    return steps;
                }
            }
            return -9;
        }

        int orders() {
            return orders(new HashSet<>(standing()), new HashMap<>());
        }

        /** Any that no other of them hangs on may have come last. */
        private int orders(Set<House> left, Map<Set<House>, Integer> known) {
            if (left.isEmpty()) {
                return 1;
            }
            Integer was = known.get(left);
            if (was != null) {
                return was;
            }
            int all = 0;
            for (House last : left) {
                boolean free = true;
                for (House h : left) {
                    free &= h.first != last && h.second != last;
                }
                if (free) {
                    Set<House> rest = new HashSet<>(left);
                    rest.remove(last);
                    all += orders(rest, known);
                }
            }
            known.put(left, all);
            return all;
        }

        int seeds(int n, int z, int what) {
            World mind = copy();
            int seed = z;
            for (int i = 0; i < n; i++) {
                int size = mind.houses.size();
                seed = seed * 1103515245 + 12345;
                int one = (seed & 0x7fffffff) / 65536 % size;
                seed = seed * 1103515245 + 12345;
                int other = (seed & 0x7fffffff) / 65536 % size;
                if (mind.may(one, other) && size < 12) {
                    mind.build(one, other, 0, 0);
                }
            }
            return what == 0 ? mind.standing().size() : mind.greatest();
        }

        boolean comes(String statement) {
            String[] parts = statement.substring(1).split(",");
            if (statement.startsWith("n")) {
                anew();
                return true;
            }
            if (statement.startsWith("l")) {
                int s = statement.charAt(1) - '0';
                int f = statement.charAt(2) - '0';
                if (s > 2 || f > 1) {
                    return false;
                }
                sums = s;
                falls = f;
                return true;
            }
            int one = Integer.parseInt(parts[0]);
            if (statement.startsWith("b")) {
                return stands(one) && burn(one) > 0;
            }
            int other = Integer.parseInt(parts[1]);
            int kind = parts[2].charAt(0) - '0';
            if (kind > 5 || houses.size() == 12 || !may(one, other)) {
                return false;
            }
            build(one, other, kind, parts[2].charAt(1) - '0');
            return true;
        }
    }

    World world = new World();
    World image;
    String letters = "";
    List<Integer> row = new ArrayList<>();
    int[] refusals = new int[7];

    int no(int refusal) {
        refusals[-refusal]++;
        return refusal;
    }

    int feed(int letter) {
        if (letter < 0) {
            return no(-4);
        }
        if (letter > 255 || letters.length() == 64) {
            return no(-6);
        }
        letters += (char) letter;
        return letters.length();
    }

    private static boolean goesOn(String begun) {
        for (String end : ENDS) {
            for (int from = 0; from <= end.length(); from++) {
                if ((begun + end.substring(from)).matches(FORM)) {
                    return true;
                }
            }
        }
        return false;
    }

    int street() {
        String text = letters;
        letters = "";
        if (!text.matches(FORM)) {
            for (int place = 0; place < text.length(); place++) {
                if (!goesOn(text.substring(0, place + 1))) {
                    return -1000 - place;
                }
            }
            return -1000 - text.length();
        }
        World then = world.copy();
        int place = 0;
        String[] statements = text.split(";");
        for (String statement : statements) {
            if (!then.comes(statement)) {
                return -2000 - place;
            }
            place += statement.length() + 1;
        }
        world = then;
        return statements.length;
    }

    int house(int house, int what) {
        if (!world.has(house)) {
            return no(-1);
        }
        House h = world.houses.get(house);
        switch (what) {
            case 0: return h.kind;
            case 1: return h.figure;
            case 2: return h.number;
            case 3: return h.first == null ? -4 : world.houses.indexOf(h.first);
            case 4: return h.second == null ? -4 : world.houses.indexOf(h.second);
            case 5: return h.stands ? 1 : 0;
            case 6: return h.uses;
            case 7: return h.earned;
            default: return no(-2);
        }
    }

    int law(int what, int v) {
        if (what != 0 && what != 1 || v < 0 || v > 2 - what) {
            return no(-2);
        }
        int was = what == 0 ? world.sums : world.falls;
        if (what == 0) {
            world.sums = v;
        } else {
            world.falls = v;
        }
        return was;
    }

    int may(int one, int other) {
        if (!world.has(one) || !world.has(other)) {
            return no(-1);
        }
        if (!world.stands(one) || !world.stands(other)) {
            return no(-3);
        }
        return world.may(one, other) ? 1 : 0;
    }

    int cost(int one, int other) {
        if (!world.has(one) || !world.has(other)) {
            return no(-1);
        }
        return world.may(one, other) ? world.houses.get(one).fee() + world.houses.get(other).fee() : no(-3);
    }

    int add(int one, int other, int kind, int figure) {
        if (!world.has(one) || !world.has(other)) {
            return no(-1);
        }
        if (kind < 0 || kind > 5) {
            return no(-2);
        }
        if (figure < 0) {
            return no(-4);
        }
        if (figure > 9) {
            return no(-6);
        }
        if (!world.may(one, other)) {
            return no(-3);
        }
        if (world.houses.size() == 12) {
            return no(-6);
        }
        world.build(one, other, kind, figure);
        return world.houses.size() - 1;
    }

    int fire(int house, boolean real) {
        if (!world.has(house)) {
            return no(-1);
        }
        if (!world.stands(house)) {
            return no(-3);
        }
        return real ? world.burn(house) : world.hangs(house);
    }

    int more(int n) {
        return n < 1 ? no(-4) : n > 300 ? no(-6) : world.more(n);
    }

    int row(int number) {
        if (number < 1) {
            return no(-4);
        }
        if (number > 9999 || row.size() == 12) {
            return no(-6);
        }
        row.add(number);
        return row.size();
    }

    int judge() {
        List<Integer> all = row;
        row = new ArrayList<>();
        Set<Integer> ahead = new HashSet<>();
        for (int place = 0; place < all.size(); place++) {
            int number = all.get(place);
            boolean right = place == 0 && number == 1;
            for (int a : ahead) {
                right |= ahead.contains(number - a);
            }
            if (!right || !ahead.add(number)) {
                return place;
            }
        }
        return -9;
    }

    int seeds(int n, int z, int what) {
        if (what != 0 && what != 1) {
            return no(-2);
        }
        return n < 1 ? no(-4) : n > 40 ? no(-6) : world.seeds(n, z, what);
    }

    int image() {
        image = world.copy();
        return world.houses.size();
    }

    int restore() {
        if (image == null) {
            return no(-3);
        }
        world = image.copy();
        return world.houses.size();
    }

    int count(int what) {
        switch (what) {
            case 0: return world.houses.size();
            case 1: return world.standing().size();
            case 2: return world.greatest();
            case 3: return world.sums;
            case 4: return world.falls;
            case 5: return world.houses.stream().mapToInt(h -> h.earned).sum();
            case 6: return letters.length();
            case 7: return row.size();
            default: return what >= 11 && what <= 16 ? refusals[what - 10] : -9;
        }
    }
}
