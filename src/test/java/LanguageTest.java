import java.io.IOException;
import java.lang.reflect.Constructor;
import java.lang.reflect.Field;
import java.lang.reflect.Method;
import java.lang.reflect.Modifier;
import java.nio.file.Files;
import java.nio.file.Path;
import java.util.Arrays;
import java.util.List;
import java.util.Random;
import java.util.Set;
import java.util.TreeSet;
import java.util.regex.Matcher;
import java.util.regex.Pattern;

/** What LANGUAGE.md says of the class and can be seen from outside: its face, words that it must not use, no throwing. */
public final class LanguageTest {
    private static final String FACE = "set/3 work/3 told/2 feed/1 text/0 force/1 asks/2 year/0 run/2 first/2 where/3 idle/1 "
        + "low/2 floods/2 tells/2 film/2 drawn/2 chance/4 image/0 back/0 count/1 sheet/3 cell/3 copy/5 works/4 taken/2";
    private static final List<String> WORDS = List.of("throw", "throws", "try", "catch", "synchronized", "assert", "import",
        "package", "yield", "native", "volatile", "transient", "protected", "Object", "Random", "Thread", "Class");
    private static final int[] WILD = {Integer.MIN_VALUE, Integer.MIN_VALUE + 1, -1000, -101, -100, -14, -13, -12, -11, -4, -3,
        -2, -1, 0, 1, 2, 3, 4, 5, 6, 7, 8, 9, 10, 11, 12, 13, 20, 25, 30, 31, 32, 35, 39, 40, 41, 45, 59, 60, 99, 100, 111, 112,
        255, 256, 311, 312, 999, 1000, 1012, 3000, 3012, 3013, 4095, 65535, 65536, Integer.MAX_VALUE - 1, Integer.MAX_VALUE};

    public static void main(String[] args) throws IOException, ReflectiveOperationException {
        face();
        members();
        insideClasses();
        words();
        wildCalls();
        Due.end();
    }

    private static void holds(String what, boolean good) {
        Due.is(what, good ? 1 : 0, 1);
    }

    private static void face() {
        Class<?> c = DrainedForAThird.class;
        Set<String> due = new TreeSet<>(Arrays.asList(FACE.split(" ")));
        Set<String> got = new TreeSet<>();
        for (Method m : c.getDeclaredMethods()) {
            if (Modifier.isPublic(m.getModifiers())) {
                got.add(m.getName() + "/" + m.getParameterCount());
                holds(m + " answers an int, or a long", m.getReturnType() == (m.getName().equals("chance") ? long.class : int.class));
                for (Class<?> type : m.getParameterTypes()) {
                    holds(m + " takes ints", type == int.class);
                }
                holds(m + " is no static one", !Modifier.isStatic(m.getModifiers()));
            }
        }
        holds("public methods " + got, got.equals(due));
        holds("a public final class", Modifier.isPublic(c.getModifiers()) && Modifier.isFinal(c.getModifiers()));
        holds("of nothing", c.getSuperclass() == Object.class && c.getInterfaces().length == 0);
    }

    private static void members() {
        Set<String> names = new TreeSet<>();
        for (String call : FACE.split(" ")) {
            names.add(call.substring(0, call.indexOf('/')));
        }
        Class<?> c = DrainedForAThird.class;
        for (Method m : c.getDeclaredMethods()) {
            holds(m + " is public or private", Modifier.isPublic(m.getModifiers()) || Modifier.isPrivate(m.getModifiers()));
            holds(m + " is public or of another name", Modifier.isPublic(m.getModifiers()) || !names.contains(m.getName()));
        }
        Set<String> constants = new TreeSet<>();
        for (Field f : c.getDeclaredFields()) {
            if (Modifier.isPublic(f.getModifiers())) {
                constants.add(f.getName());
            }
            holds(f + " is public or private", Modifier.isPublic(f.getModifiers()) || Modifier.isPrivate(f.getModifiers()));
        }
        holds("public constants " + constants, constants.equals(Set.of("NONE", "BAD", "STATE", "FULL", "NO")));
        Constructor<?>[] made = c.getDeclaredConstructors();
        holds("one public constructor", made.length == 1 && Modifier.isPublic(made[0].getModifiers())
            && made[0].getParameterCount() == 0);
    }

    private static void insideClasses() {
        Class<?>[] inside = DrainedForAThird.class.getDeclaredClasses();
        holds("twelve classes at most", inside.length <= 11);
        for (Class<?> c : inside) {
            int m = c.getModifiers();
            holds(c + " is static, and not for others", Modifier.isStatic(m) && !Modifier.isPublic(m) && !Modifier.isProtected(m));
            holds(c + " has none inside", c.getDeclaredClasses().length == 0);
            fields(c);
        }
        fields(DrainedForAThird.class);
    }

    private static void fields(Class<?> c) {
        int own = 0;
        for (Field f : c.getDeclaredFields()) {
            int m = f.getModifiers();
            own += Modifier.isStatic(m) ? 0 : 1;
            holds(f + " is no static one that changes", !Modifier.isStatic(m) || Modifier.isFinal(m));
        }
        holds(c + " has twenty fields at most", own <= 20);
        for (Method m : c.getDeclaredMethods()) {
            holds(m + " takes seven at most", m.getParameterCount() <= 7);
        }
    }

    private static void words() throws IOException {
        String source = Files.readString(Path.of("src/main/java/DrainedForAThird.java"));
        String code = source.replaceAll("(?s)/\\*.*?\\*/", " ").replaceAll("//[^\n]*", " ").replaceAll("\"[^\"\n]*\"", "\"\"");
        for (String word : WORDS) {
            Matcher found = Pattern.compile("\\b" + word + "\\b").matcher(code);
            holds("the word " + word, !found.find());
        }
        holds("no lambda, no arrow", !code.contains("->"));
        holds("no method reference", !code.contains("::"));
        holds("signs of ASCII alone", source.chars().allMatch(b -> b == 10 || b >= 32 && b < 127));
        int longest = 0;
        for (String line : source.split("\n")) {
            longest = Math.max(longest, line.length());
        }
        holds("lines of 120 at most", longest <= 120);
    }

    /** No call may ever throw: every call with numbers from far outside too, in states of all sorts. */
    private static void wildCalls() throws ReflectiveOperationException {
        Random random = new Random(12);
        Method[] methods = Arrays.stream(DrainedForAThird.class.getDeclaredMethods())
            .filter(m -> Modifier.isPublic(m.getModifiers())).toArray(Method[]::new);
        Arrays.sort(methods, (a, b) -> a.getName().compareTo(b.getName()));
        for (int run = 0; run < 120; run++) {
            DrainedForAThird x = new DrainedForAThird();
            for (int call = 0; call < 512; call++) {
                Method m = methods[random.nextInt(methods.length)];
                Object[] numbers = new Object[m.getParameterCount()];
                for (int i = 0; i < numbers.length; i++) {
                    numbers[i] = random.nextInt(3) > 0 ? random.nextInt(12) : WILD[random.nextInt(WILD.length)];
                }
                String told = m.getName() + Arrays.toString(numbers);
                try {
                    m.invoke(x, numbers);
                } catch (java.lang.reflect.InvocationTargetException e) {
                    holds(told + " throws nothing, but " + e.getCause(), false);
                }
            }
        }
    }
}
