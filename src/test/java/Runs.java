import java.lang.reflect.Method;
import java.util.ArrayList;
import java.util.HashMap;
import java.util.List;
import java.util.Map;
import java.util.Set;
import java.util.regex.Matcher;
import java.util.regex.Pattern;

/**
 * Runs of calls on new objects, each told in a line: add(0,0,0,0)=1 house(1,2)=2. A text in quotes is fed letter by
 * letter and then street() asked; doubled(12) builds till so many houses came, each the double of that ahead;
 * 64*feed(110) makes the call so often, and none of these answers is looked at.
 */
final class Runs {
    private static final Pattern ITEM = Pattern.compile("(?:(\\d+)\\*)?(?:\"([^\"]*)\"|(\\w+)\\(([-0-9,]*)\\))(?:=(-?\\d+))?");
    private static final Set<String> THAT_LOOK = Set.of("house", "may", "cost", "hangs", "save", "fewest", "chain", "way",
            "both", "far", "can", "more", "orders", "game", "seeds", "count");
    private static final int MOST_FOR_TWINS = 60;
    private static final Map<String, Method> CALLS = new HashMap<>();

    static {
        for (Method method : SumOfTwoThatStand.class.getDeclaredMethods()) {
            CALLS.put(method.getName(), method);
        }
    }

    private record Item(int times, String text, String name, Object[] numbers, Integer due) {
        String told() {
            return text != null ? "street() of " + text : name + java.util.Arrays.toString(numbers);
        }

        /** A house's TWO of -4 is an answer. */
        boolean isRefusal() {
            return due != null && due < 0 && due > -7 && !(name.equals("house") && due == -4);
        }

        boolean changesNothing() {
            return isRefusal() || THAT_LOOK.contains(name);
        }

        int on(SumOfTwoThatStand x) {
            int answer = 0;
            for (int i = 0; i < times; i++) {
                answer = once(x);
            }
            return answer;
        }

        private int once(SumOfTwoThatStand x) {
            if (text != null) {
                return Due.street(x, text);
            }
            if (name.equals("doubled")) {
                for (int came = x.count(0); came < (int) numbers[0]; came++) {
                    x.add(came - 1, came - 1, 0, 0);
                }
                return x.count(0);
            }
            try {
                return (int) CALLS.get(name).invoke(x, numbers);
            } catch (ReflectiveOperationException e) {
                throw new IllegalStateException(told(), e);
            }
        }
    }

    private Runs() {
    }

    static void run(String line) {
        List<Item> items = read(line);
        boolean hasTwins = items.stream().mapToInt(Item::times).sum() < MOST_FOR_TWINS;
        SumOfTwoThatStand x = new SumOfTwoThatStand();
        for (int i = 0; i < items.size(); i++) {
            Item item = items.get(i);
            String call = line + ": " + item.told();
            int[] before = refusals(x);
            int answer = item.on(x);
            if (item.due() == null) {
                continue;
            }
            Due.is(call, answer, item.due());
            if (item.isRefusal()) {
                before[-item.due()]++;
            }
            Due.is(call + ": what is counted", java.util.Arrays.equals(before, refusals(x)) ? 1 : 0, 1);
            if (item.changesNothing() && hasTwins) {
                Due.is(call + ": changes nothing", told(twin(items, i)).equals(told(twin(items, i + 1))) ? 1 : 0, 1);
            }
        }
    }

    private static List<Item> read(String line) {
        List<Item> items = new ArrayList<>();
        Matcher matcher = ITEM.matcher(line);
        int end = 0;
        while (matcher.find()) {
            check(line, line.substring(end, matcher.start()));
            end = matcher.end();
            int times = matcher.group(1) == null ? 1 : Integer.parseInt(matcher.group(1));
            String name = matcher.group(2) == null ? matcher.group(3) : "street";
            Integer due = matcher.group(5) == null ? null : Integer.valueOf(matcher.group(5));
            items.add(new Item(times, matcher.group(2), name, numbers(matcher.group(4)), due));
        }
        check(line, line.substring(end));
        return items;
    }

    private static void check(String line, String between) {
        if (!between.isBlank()) {
            throw new IllegalStateException("no call: " + between + " in: " + line);
        }
    }

    private static Object[] numbers(String told) {
        if (told == null || told.isEmpty()) {
            return new Object[0];
        }
        return java.util.Arrays.stream(told.split(",")).map(Integer::valueOf).toArray();
    }

    private static SumOfTwoThatStand twin(List<Item> items, int length) {
        SumOfTwoThatStand x = new SumOfTwoThatStand();
        for (Item item : items.subList(0, length)) {
            item.on(x);
        }
        return x;
    }

    private static int[] refusals(SumOfTwoThatStand x) {
        int[] all = new int[7];
        for (int i = 1; i <= 6; i++) {
            all[i] = x.count(10 + i);
        }
        return all;
    }

    /** All that an object holds but its refusals: as it is, behind its letters, and as its image was. */
    private static List<Integer> told(SumOfTwoThatStand x) {
        List<Integer> all = new ArrayList<>();
        tell(x, all);
        all.add(x.street());
        tell(x, all);
        all.add(x.judge());
        all.add(x.restore());
        tell(x, all);
        return all;
    }

    private static void tell(SumOfTwoThatStand x, List<Integer> all) {
        for (int what = 0; what < 8; what++) {
            all.add(x.count(what));
        }
        for (int i = 0; i < x.count(0) * 8; i++) {
            all.add(x.house(i / 8, i % 8));
        }
    }
}
