import java.io.IOException;
import java.lang.management.ManagementFactory;
import java.lang.reflect.Constructor;
import java.lang.reflect.Field;
import java.lang.reflect.InvocationTargetException;
import java.lang.reflect.Method;
import java.lang.reflect.Modifier;
import java.nio.charset.StandardCharsets;
import java.nio.file.Files;
import java.nio.file.Path;
import java.util.Arrays;
import java.util.Random;
import java.util.Set;
import java.util.TreeSet;
import java.util.regex.Matcher;
import java.util.regex.Pattern;

/** The face as the document has it, what of LANGUAGE.md can be seen in the source, and that no call throws or makes objects. */
final class RulesTest {
    private static final int[] EXTREMES = {Integer.MIN_VALUE, Integer.MAX_VALUE, Integer.MIN_VALUE + 1, Integer.MAX_VALUE - 1,
        -1, 0, 1, 2, 3, 4, 5, 8, 10, 11, 16, 40, 41, 60, 99, 100, 101, 160, 255, 256, 2000, 4015, 6040, 99999, 65536, -100};

    public static void main(String[] args) throws Exception {
        Path main = Path.of(System.getProperty("main", "src/main/java/ThreePoints.java"));
        Path shared = Path.of(System.getProperty("shared", "../shared"));
        face(Files.readString(shared.resolve("DOC.md")));
        classes();
        source(main);
        hostileCalls();
        noObjects();
        Due.end();
    }

    private static void face(String doc) {
        String all = doc.substring(doc.indexOf("public final class ThreePoints"), doc.indexOf("## Terms"));
        Set<String> want = new TreeSet<>();
        Matcher m = Pattern.compile("public (int|long) (\\w+)\\(([^)]*)\\);").matcher(all);
        while (m.find()) want.add(m.group(1) + " " + m.group(2) + "(" + m.group(3).replaceAll("int \\w+", "int") + ")");
        Set<String> got = new TreeSet<>();
        Set<String> names = new TreeSet<>();
        for (Method method : ThreePoints.class.getDeclaredMethods()) {
            if (!Modifier.isPublic(method.getModifiers())) continue;
            names.add(method.getName());
            String types = String.join(", ", Arrays.stream(method.getParameterTypes()).map(Class::getName).toList());
            got.add(method.getReturnType().getName() + " " + method.getName() + "(" + types + ")");
        }
        Due.is("methods of the document", want.size(), 32 - 1);
        Due.same("the methods", got.toString(), want.toString());
        for (Method method : ThreePoints.class.getDeclaredMethods()) {
            boolean own = Modifier.isPrivate(method.getModifiers()) || method.isSynthetic();
            if (Modifier.isPublic(method.getModifiers())) continue;
            Due.isTrue(method + " is private", own);
            Due.isTrue(method + " bears no public one's name", !names.contains(method.getName()));
        }
        Set<String> constants = new TreeSet<>();
        for (Field field : ThreePoints.class.getDeclaredFields()) {
            if (Modifier.isPublic(field.getModifiers())) constants.add(field.getName());
            else Due.isTrue(field + " is private", Modifier.isPrivate(field.getModifiers()));
        }
        Due.same("the constants", constants.toString(), "[BAD, FULL, NO, NONE, STATE]");
        Due.is("NONE", ThreePoints.NONE, -1);
        Due.is("BAD", ThreePoints.BAD, -2);
        Due.is("STATE", ThreePoints.STATE, -3);
        Due.is("FULL", ThreePoints.FULL, -4);
        Due.is("NO", ThreePoints.NO, -4611686018427387904L);
    }

    private static void classes() {
        int of = ThreePoints.class.getModifiers();
        Due.isTrue("public final", Modifier.isPublic(of) && Modifier.isFinal(of));
        Constructor<?>[] made = ThreePoints.class.getDeclaredConstructors();
        Due.isTrue("one constructor", made.length == 1 && made[0].getParameterCount() == 0 && Modifier.isPublic(made[0].getModifiers()));
        Class<?>[] inside = ThreePoints.class.getDeclaredClasses();
        Due.isTrue("some twelve classes", inside.length <= 12);
        for (Class<?> c : inside) {
            Due.isTrue(c + " is static", Modifier.isStatic(c.getModifiers()));
            Due.isTrue(c + " is not public", !Modifier.isPublic(c.getModifiers()) && !Modifier.isProtected(c.getModifiers()));
            int fields = 0;
            for (Field field : c.getDeclaredFields()) {
                if (Modifier.isStatic(field.getModifiers())) Due.isTrue(field + " is final", Modifier.isFinal(field.getModifiers()));
                else fields++;
            }
            Due.isTrue(c + " has some twenty fields", fields <= 20);
            for (Method method : c.getDeclaredMethods()) {
                Due.isTrue(method + " takes at most seven", method.getParameterCount() <= 7);
            }
        }
    }

    private static void source(Path main) throws IOException {
        String text = Files.readString(main, StandardCharsets.UTF_8);
        Due.isTrue("signs 1 to 127", text.chars().allMatch(c -> c > 0 && c < 128));
        String code = text.replaceAll("(?s)/\\*.*?\\*/", " ").replaceAll("//[^\n]*", " ")
            .replaceAll("\"(\\\\.|[^\"\\\\])*\"", "\"\"").replaceAll("'(\\\\.|[^'\\\\])'", "' '");
        for (String word : new String[] {"throw", "throws", "try", "catch", "finally", "synchronized", "assert", "volatile",
            "transient", "native", "Object", "Exception", "package", "Thread", "System.out", "System.exit", "var"}) {
            Due.isTrue("no " + word, !Pattern.compile("\\b" + Pattern.quote(word) + "\\b").matcher(code).find());
        }
        for (String sign : new String[] {"->", "::", "@", "\"\" +", "+ \"\"", "[][][]"}) Due.isTrue("no " + sign, !code.contains(sign));
        Matcher imports = Pattern.compile("import ([^;]+);").matcher(code);
        while (imports.find()) Due.isTrue("import " + imports.group(1), imports.group(1).equals("java.util.Arrays"));
        Matcher library = Pattern.compile("\\b(Math|System|Arrays|Integer|Long|String)\\.(\\w+)").matcher(code);
        Set<String> allowed = Set.of("Math.max", "Math.min", "System.arraycopy", "Arrays.fill");
        while (library.find()) Due.isTrue(library.group(), allowed.contains(library.group()));
        int longest = 0;
        int started = -1;
        String[] lines = text.split("\n");
        for (int i = 0; i < lines.length; i++) {
            if (lines[i].matches("( {4}| {8})\\S.*\\) \\{")) started = i;
            if (lines[i].matches("( {4}| {8})\\}") && started >= 0) {
                longest = Math.max(longest, i - started + 1);
                started = -1;
            }
        }
        Due.isTrue("methods are short: " + longest, longest > 3 && longest <= 60);
    }

    private static Method[] methods() {
        Method[] all = Arrays.stream(ThreePoints.class.getDeclaredMethods())
            .filter(m -> Modifier.isPublic(m.getModifiers())).toArray(Method[]::new);
        Arrays.sort(all, (a, b) -> a.getName().compareTo(b.getName()));
        return all;
    }

    private static void hostileCalls() throws IllegalAccessException {
        Method[] all = methods();
        Random random = new Random(1);
        for (int run = 0; run < 60; run++) {
            ThreePoints x = new ThreePoints();
            for (int call = 0; call < 512; call++) {
                Method method = all[random.nextInt(all.length)];
                Object[] args = new Object[method.getParameterCount()];
                for (int i = 0; i < args.length; i++) {
                    args[i] = random.nextInt(3) == 0 ? random.nextInt(5) : EXTREMES[random.nextInt(EXTREMES.length)];
                }
                try {
                    method.invoke(x, args);
                    Due.isTrue(method.getName(), true);
                } catch (InvocationTargetException e) {
                    Due.isTrue(method.getName() + Arrays.toString(args) + " threw " + e.getCause(), false);
                }
            }
        }
    }

    /** All that a call needs is made with the object, so a run's room is that of its objects. */
    private static void noObjects() {
        int runs = 200;
        ThreePoints[] all = new ThreePoints[runs];
        for (int i = 0; i < runs; i++) all[i] = new ThreePoints();
        com.sun.management.ThreadMXBean threads = (com.sun.management.ThreadMXBean) ManagementFactory.getThreadMXBean();
        long id = Thread.currentThread().getId();
        long ahead = threads.getThreadAllocatedBytes(id);
        for (int i = 0; i < runs; i++) everyCall(all[i]);
        long made = threads.getThreadAllocatedBytes(id) - ahead;
        // the machine itself now and then makes a few; one object a run would be 3200 bytes
        Due.isTrue("bytes made by the calls: " + made, made < 16L * runs);
    }

    private static void everyCall(ThreePoints x) {
        x.vehicle(13, 20);
        x.vehicle(0, 20);
        String law = LAW;
        for (int i = 0; i < law.length(); i++) x.feed(1, law.charAt(i), 0, 0, 0, 0);
        x.force(x.text());
        x.feed(1, 'a', 0, 0, 0, 0);
        x.text();
        x.set(1, 5);
        x.count(0);
        x.asks(1, 0, 2000, 0);
        x.told(0, 2);
        x.fit(0, 2000);
        x.drive(0, 0, 1);
        x.begin(1, 10);
        for (int f = 0; f < 2; f++) {
            x.turned(0, 10 * f);
            x.turned(0, 10 * f + 1);
            x.where(0, 10 * f);
        }
        x.narrow(0, 3);
        x.cut(0, 3);
        x.headings(0);
        x.best(0);
        x.sheet(0, 2, 3);
        x.cell(0, 1, 1);
        x.cell(0, 2, 8);
        x.judge(0, 0);
        x.ends(0, 0, 0);
        x.kinds(0, 0, 0);
        x.widths(0, 0, 0);
        x.laws(0, 0);
        x.drawn(3, 60, 0, 0);
        x.odds(3, 6040, 0, 0);
        x.image();
        x.copy(0, 0, 0, 1, 2);
        x.vehiclesBy(0, 2, 0, 1);
        x.taken(0, 1);
        x.back();
    }

    private static final String LAW = "clears (place < 9) + more * 0 ; wears 1 + steers * not heading ; sure - - 50 + wall ;";
}
