import java.lang.management.ManagementFactory;
import java.lang.reflect.Constructor;
import java.lang.reflect.Field;
import java.lang.reflect.Method;
import java.lang.reflect.Modifier;
import java.nio.file.Files;
import java.nio.file.Path;
import java.util.Set;
import java.util.TreeSet;
import java.util.regex.Matcher;
import java.util.regex.Pattern;

/** The face, what LANGUAGE.md rules out, calls with the worst numbers, and what calls make. */
public final class LanguageTest {
    private static final Check CHECK = new Check();
    private static final Path SOURCE = Path.of("src/main/java/FilmCans.java");
    private static final String[] FACE = {
        "int feed(int)", "int book()", "int fault()", "int undo()", "int load(int)", "int shoot(int)", "int unload()",
        "int lab()", "int again(int)", "int buy(int, int)", "int ask(int, int)", "int become(int, int)",
        "int demand(int, int, int)", "int law(int, int)", "int can(int, int)", "int take(int, int)",
        "int roll(int, int)", "int sums(int)", "int batches(int)", "int as(int, int)", "int fits(int, int)",
        "int plan(int)", "int planOf(int)", "int rule(int, int)", "int ruleOf(int, int)", "int longer(int)",
        "int more(int)", "int needed()", "long fogged(int, int)", "int drawn(int, int, int)", "int image(int)",
        "int restore(int)", "int count(int)"};

    public static void main(String[] args) throws Exception {
        face();
        words();
        sizes();
        worstNumbers();
        made();
        CHECK.end();
    }

    private static void face() {
        Set<String> want = new TreeSet<>(Set.of(FACE));
        Set<String> names = new TreeSet<>();
        for (String line : FACE) {
            names.add(line.substring(line.indexOf(' ') + 1, line.indexOf('(')));
        }
        Set<String> got = new TreeSet<>();
        for (Method m : FilmCans.class.getDeclaredMethods()) {
            if (m.isSynthetic()) {
                continue;
            }
            if (Modifier.isPrivate(m.getModifiers())) {
                CHECK.holds("no private method bears the name " + m.getName(), !names.contains(m.getName()));
            } else {
                String types = java.util.Arrays.toString(m.getParameterTypes()).replace("[", "(").replace("]", ")");
                got.add(m.getReturnType() + " " + m.getName() + types);
                CHECK.holds(m.getName() + " is public", Modifier.isPublic(m.getModifiers()));
            }
        }
        CHECK.holds("the face is that of the document: " + got, got.equals(want));
        CHECK.holds("the class is final", Modifier.isFinal(FilmCans.class.getModifiers()));
        Constructor<?>[] made = FilmCans.class.getDeclaredConstructors();
        CHECK.holds("one public constructor", made.length == 1 && Modifier.isPublic(made[0].getModifiers()));
        Set<String> constants = new TreeSet<>();
        for (Field f : FilmCans.class.getDeclaredFields()) {
            if (!Modifier.isPrivate(f.getModifiers())) {
                constants.add(f.getName());
            }
        }
        CHECK.holds("the constants " + constants, constants.equals(Set.of("NONE", "BAD", "STATE", "FULL")));
        Class<?>[] inside = FilmCans.class.getDeclaredClasses();
        CHECK.holds("at most twelve classes", inside.length + 1 <= 12);
        for (Class<?> c : inside) {
            CHECK.holds(c + " is static", Modifier.isStatic(c.getModifiers()) && !Modifier.isPublic(c.getModifiers()));
            for (Method m : c.getDeclaredMethods()) {
                CHECK.holds(c + " has a method named as one of the face: " + m.getName(), !names.contains(m.getName()));
            }
        }
        for (Class<?> c : inside) {
            int own = 0;
            for (Field f : c.getDeclaredFields()) {
                if (Modifier.isStatic(f.getModifiers())) {
                    CHECK.holds(f + " is final", Modifier.isFinal(f.getModifiers()));
                } else {
                    own++;
                }
            }
            CHECK.holds(c + " has some twenty fields: " + own, own <= 20);
        }
    }

    private static String withoutTexts(String source) {
        return source.replaceAll("(?s)/\\*.*?\\*/", " ").replaceAll("//[^\\n]*", " ").replaceAll("'\\\\?.'", "' '");
    }

    private static void words() throws Exception {
        String source = Files.readString(SOURCE);
        String code = withoutTexts(source);
        String[] ruledOut = {"\\bthrow\\b", "\\bthrows\\b", "\\btry\\b", "\\bcatch\\b", "\\bsynchronized\\b", "\\bassert\\b",
            "->", "::", "\\bpackage\\b", "\\bprotected\\b", "\\bvar\\b", "\\bObject\\b", "\\bequals\\b", "\\bhashCode\\b",
            "\\btoString\\b", "Exact\\b", "\\bRandom\\b", "\\bThread\\b", "\\bdouble\\b", "\\bfloat\\b", "@", "\"",
            "\\bInteger\\.(?!bitCount|min|max|compare)", "\\bMath\\.(?!min|max|abs)", "\\bLong\\.",
            "\\bSystem\\.(?!arraycopy)", "\\bArrays\\.(?!fill|copyOf)", "\\bstatic\\s*\\{", "\\[\\]\\[\\]\\["};
        for (String word : ruledOut) {
            Matcher m = Pattern.compile(word).matcher(code);
            CHECK.holds("ruled out: " + word, !m.find());
        }
        Matcher imports = Pattern.compile("import ([^;]*);").matcher(code);
        while (imports.find()) {
            CHECK.holds("import of " + imports.group(1), imports.group(1).equals("java.util.Arrays"));
        }
        for (int i = 0; i < source.length(); i++) {
            if (source.charAt(i) > 126) {
                CHECK.holds("a sign beyond 126 at " + i, false);
            }
        }
    }

    private static void sizes() throws Exception {
        String code = withoutTexts(Files.readString(SOURCE));
        Matcher m = Pattern.compile("(?m)^ {4,8}(?:(?:public|private|static|final) )*\\w[\\w\\[\\]]* (\\w+)\\(([^)]*)\\) \\{$").matcher(code);
        int methods = 0;
        while (m.find()) {
            methods++;
            int parameters = m.group(2).isBlank() ? 0 : m.group(2).split(",").length;
            CHECK.holds(m.group(1) + " takes at most seven parameters", parameters <= 7);
            String indent = code.substring(m.start(), m.end()).replaceAll("\\S.*", "");
            int end = code.indexOf("\n" + indent + "}", m.end());
            long lines = code.substring(m.start(), end).lines().count();
            CHECK.holds(m.group(1) + " is short: " + lines, lines <= 60);
        }
        CHECK.holds("methods were found: " + methods, methods > 100);
    }

    /** Whatever the numbers and the state: an answer, and nothing thrown. */
    private static void worstNumbers() throws Exception {
        int[] numbers = {Integer.MIN_VALUE, -1000000, -1, 0, 1, 2, 5, 6, 7, 8, 31, 32, 63, 64, 255, 256, Integer.MAX_VALUE};
        String[] texts = {"", "h0,1,10,0;n1;", "h9,40,99,20;s99;r99;n99;f99;g99;n99;t0,60;t0,1;t1,60;t2,1;t3,9;t4,9;t5,9;t0,9;"};
        for (String text : texts) {
            for (Method m : FilmCans.class.getMethods()) {
                if (m.getDeclaringClass() == FilmCans.class) {
                    callAll(text, m, numbers);
                }
            }
        }
    }

    private static void callAll(String text, Method m, int[] numbers) throws Exception {
        int n = m.getParameterCount();
        int ways = 1;
        for (int i = 0; i < n; i++) {
            ways *= numbers.length;
        }
        FilmCans x = Check.of(text);
        x.load(0);
        x.shoot(0);
        for (int way = 0; way < ways; way++) {
            Object[] given = new Object[n];
            int rest = way;
            for (int i = 0; i < n; i++) {
                given[i] = numbers[rest % numbers.length];
                rest /= numbers.length;
            }
            try {
                m.invoke(x, given);
            } catch (java.lang.reflect.InvocationTargetException e) {
                CHECK.holds(m.getName() + java.util.Arrays.toString(given) + " threw " + e.getCause(), false);
            }
        }
    }

    /** All rows are made with the object, so that calls make nothing that a room would have to hold. */
    private static void made() {
        var threads = (com.sun.management.ThreadMXBean) ManagementFactory.getThreadMXBean();
        FilmCans x = Check.of("h2,5,40,3;n99;f90;g80;r70;s60;n50;t0,9;t0,8;t1,7;t2,6;t3,5;t4,4;t5,3;t0,2;");
        callMany(x);
        threads.getCurrentThreadAllocatedBytes();
        long before = threads.getCurrentThreadAllocatedBytes();
        callMany(x);
        long bytes = threads.getCurrentThreadAllocatedBytes() - before;
        CHECK.holds("calls make nothing: " + bytes + " bytes", bytes < 1024);
        before = threads.getCurrentThreadAllocatedBytes();
        new FilmCans();
        bytes = threads.getCurrentThreadAllocatedBytes() - before;
        CHECK.holds("a new object is small: " + bytes + " bytes", bytes < 60000);
    }

    private static void callMany(FilmCans x) {
        for (int i = 0; i < 40; i++) {
            x.load(i % 6);
            x.shoot(i % 8);
            x.unload();
            x.again(i % 8);
            x.lab();
            x.law(0, i % 10);
            x.plan(0);
            x.planOf(i % 6);
            x.rule(0, 0);
            x.ruleOf(1, 0);
            x.longer(i % 8);
            x.more(1);
            x.needed();
            x.fogged(3, 0);
            x.drawn(20, 1 + i, 0);
            x.batches(1);
            x.image(0);
            x.undo();
            x.feed(104);
            x.book();
            x.fits(0, 1);
            x.count(2);
            x.sums(1);
        }
    }
}
