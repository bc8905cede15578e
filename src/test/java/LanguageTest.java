import java.lang.management.ManagementFactory;
import java.lang.reflect.Constructor;
import java.lang.reflect.Field;
import java.lang.reflect.Method;
import java.lang.reflect.Modifier;
import java.nio.file.Files;
import java.nio.file.Path;
import java.util.Set;
import java.util.TreeSet;
import java.util.regex.Matcher;
import java.util.regex.Pattern;

/** What of the rules of the language can be looked at: the face, words that are ruled out, what a run makes. */
public final class LanguageTest {
    private static final Set<String> FACE = Set.of("int feed(int)", "int street()", "int house(int,int)",
            "int law(int,int)", "int may(int,int)", "int cost(int,int)", "int add(int,int,int,int)", "int burn(int)",
            "int hangs(int)", "int save()", "int fewest(int)", "int chain(int,int)", "int way(int,int)",
            "int both(int,int)", "int far(int)", "int can(int,int)", "int more(int)", "int orders()", "int game(int)",
            "int row(int)", "int judge()", "int seeds(int,int,int)", "int image()", "int restore()", "int count(int)");
    private static final String RULED_OUT = "\\b(throws?|try|catch|synchronized|assert|import|package|protected|instanceof"
            + "|equals|hashCode|toString|System\\.(?!arraycopy))\\b|->|::|\"\\s*\\+|\\+\\s*\"|[^\\x00-\\x7f]";

    public static void main(String[] args) throws Exception {
        face();
        limits(SumOfTwoThatStand.class);
        words();
        made();
        Due.end();
    }

    private static void face() {
        Set<String> found = new TreeSet<>();
        for (Method method : SumOfTwoThatStand.class.getDeclaredMethods()) {
            if (!Modifier.isPrivate(method.getModifiers())) {
                String line = method.toString();
                Due.is("public: " + line, line.startsWith("public int SumOfTwoThatStand.") ? 1 : 0, 1);
                found.add(line.replace("public ", "").replace("SumOfTwoThatStand.", ""));
            } else {
                Due.is("a public name: " + method, FACE.stream().anyMatch(f -> f.contains(" " + method.getName() + "(")) ? 1 : 0, 0);
            }
        }
        Due.is("the face " + found, found.equals(new TreeSet<>(FACE)) ? 1 : 0, 1);
        for (Field field : SumOfTwoThatStand.class.getDeclaredFields()) {
            Due.is("private: " + field, Modifier.isPrivate(field.getModifiers()) ? 1 : 0, 1);
        }
        Constructor<?>[] constructors = SumOfTwoThatStand.class.getDeclaredConstructors();
        Due.is("constructors", constructors.length, 1);
        Due.is("a public one", Modifier.isPublic(constructors[0].getModifiers()) ? 1 : 0, 1);
        for (Class<?> inside : SumOfTwoThatStand.class.getDeclaredClasses()) {
            Due.is("static: " + inside, Modifier.isStatic(inside.getModifiers()) ? 1 : 0, 1);
            Due.is("not public: " + inside, Modifier.isPublic(inside.getModifiers()) ? 1 : 0, 0);
        }
    }

    /** Rules 5 and 11: static fields are final, a class has few fields, a method few parameters. */
    private static void limits(Class<?> type) {
        int fields = 0;
        for (Field field : type.getDeclaredFields()) {
            boolean isStatic = Modifier.isStatic(field.getModifiers());
            fields += isStatic ? 0 : 1;
            Due.is("final: " + field, !isStatic || Modifier.isFinal(field.getModifiers()) ? 1 : 0, 1);
        }
        Due.is("some twenty fields: " + type, fields <= 20 ? 1 : 0, 1);
        for (Method method : type.getDeclaredMethods()) {
            Due.is("seven parameters: " + method, method.getParameterCount() <= 7 ? 1 : 0, 1);
        }
        Class<?>[] inside = type.getDeclaredClasses();
        Due.is("some twelve classes: " + type, inside.length < 12 ? 1 : 0, 1);
        for (Class<?> one : inside) {
            limits(one);
        }
    }

    private static void words() throws Exception {
        String source = Files.readString(Path.of("src/main/java/SumOfTwoThatStand.java"));
        String code = source.replaceAll("(?s)/\\*.*?\\*/", "").replaceAll("//[^\n]*", "");
        Matcher matcher = Pattern.compile(RULED_OUT).matcher(code);
        while (matcher.find()) {
            Due.is("ruled out: " + matcher.group(), 1, 0);
        }
    }

    /** All rows are made with the object: so no call makes more, however many there are. */
    private static void made() {
        SumOfTwoThatStand x = new SumOfTwoThatStand();
        calls(x);
        var threads = (com.sun.management.ThreadMXBean) ManagementFactory.getThreadMXBean();
        long id = Thread.currentThread().getId();
        threads.getThreadAllocatedBytes(id);
        long before = threads.getThreadAllocatedBytes(id);
        calls(x);
        long after = threads.getThreadAllocatedBytes(id);
        Due.is("bytes made by calls are few: " + (after - before), after - before < 2000 ? 1 : 0, 1);
    }

    private static void calls(SumOfTwoThatStand x) {
        for (int i = 0; i < 20; i++) {
            x.feed('n');
            x.feed(';');
            x.street();
            for (int house = 0; house < 12; house++) {
                x.add(house, house, 0, 0);
                x.add(0, house, 0, 0);
            }
            x.image();
            x.restore();
            x.orders();
            x.more(299);
            x.seeds(40, i, 0);
            x.game(12);
            x.chain(71, 3);
            x.both(29, 23);
            x.can(7, 1);
            x.way(299, 1);
            x.row(1);
            x.judge();
            x.save();
            x.burn(0);
        }
    }
}
