import java.lang.annotation.ElementType;
import java.lang.annotation.Retention;
import java.lang.annotation.RetentionPolicy;
import java.lang.annotation.Target;
import java.lang.reflect.InvocationTargetException;
import java.lang.reflect.Method;
import java.util.Arrays;
import java.util.Comparator;
import java.util.function.Function;
import java.util.function.Supplier;
import java.util.function.ToLongFunction;

/**
 * Tests of sentences: each test is one method that names the promise and quotes the sentence.
 * Where the document can be read, each quote must stand in it, and each word of a section must be quoted.
 */
abstract class Sentences {
    static final int NONE = -1000000, BAD = -1000001, STATE = -1000002, FULL = -1000003;
    static final int LEAST = Integer.MIN_VALUE, MOST = Integer.MAX_VALUE;
    private static final Check CHECK = new Check();
    private static String name = "";

    @Retention(RetentionPolicy.RUNTIME)
    @Target(ElementType.METHOD)
    @interface Sentence {
        String of();
        String says();
    }

    /** Runs all tests of a class; the sections that it names must be quoted whole. */
    static void run(Class<?> tests, String... sections) {
        Document document = new Document();
        Method[] methods = tests.getDeclaredMethods();
        Arrays.sort(methods, Comparator.comparing(Method::getName));
        int ran = 0;
        for (Method method : methods) {
            Sentence sentence = method.getAnnotation(Sentence.class);
            if (sentence != null) {
                name = method.getName() + " (" + sentence.of() + ", '" + sentence.says() + "')";
                if (document.isThere()) {
                    CHECK.holds(name + " stands in the document", document.says(sentence.of(), sentence.says()));
                }
                call(method);
                ran++;
            }
        }
        for (String section : sections) {
            String rest = document.isThere() ? document.notQuoted(section) : "";
            CHECK.holds("all of " + section + " is quoted by a test; not so: " + rest, rest.isEmpty());
        }
        CHECK.holds("there are tests", ran > 0);
        System.out.println(ran + " sentences");
        CHECK.end();
    }

    private static void call(Method method) {
        try {
            method.setAccessible(true);
            method.invoke(null);
        } catch (InvocationTargetException e) {
            CHECK.holds(name + " threw " + e.getCause(), false);
        } catch (IllegalAccessException e) {
            CHECK.holds(name + " can not be called", false);
        }
    }

    static void due(String call, long got, long want) {
        CHECK.due(name + ": " + call, got, want);
    }

    static FilmCans of(String text) {
        return Check.of(text);
    }

    /** What a text is answered with on a new object, and the number of its fault. */
    static void reads(String text, int answer, int fault) {
        FilmCans x = new FilmCans();
        Check.feed(x, text);
        String shown = shown(text);
        due("count(6) of " + shown, x.count(6), text.length());
        due("book() of " + shown, x.book(), answer);
        due("fault() of " + shown, x.fault(), fault);
        due("count(6) behind " + shown, x.count(6), 0);
        due("count(0) behind " + shown, x.count(0), Math.max(0, answer));
    }

    static void faulty(String text, int place, int fault) {
        reads(text, -1000100 - place, fault);
    }

    private static String shown(String text) {
        StringBuilder b = new StringBuilder();
        for (char c : text.toCharArray()) {
            b.append(c > 32 && c < 127 ? String.valueOf(c) : "<" + (int) c + ">");
        }
        return b.toString();
    }

    // ---- scenes

    static FilmCans fresh() {
        return new FilmCans();
    }

    /** No book, but a fault and bytes on the tape. */
    static FilmCans noBook() {
        FilmCans x = of("h10");
        Check.feed(x, "h0");
        return x;
    }

    /** All kinds of cans and takes, a fault before, and images; nothing done yet. */
    static FilmCans morning() {
        FilmCans x = of("h2,10,30,5;n60;f40;g30;r50;s45;n1;x");
        Check.feed(x, "h2,10,30,5;n60;f40;g30;r50;s45;t0,20;t1,15;t3,10;t4,25;t5,30;t2,12;");
        x.book();
        x.image(0);
        return x;
    }

    /**
     * In the midst of a day: can 0 in the camera with a roll of 20 feet and 38 feet left, can 1 short, can 4 spent,
     * takes 1, 2 and 3 open, two rolls that wait, nine acts, two images, an empty tape.
     */
    static FilmCans busyWithoutTape() {
        FilmCans x = morning();
        x.load(4);
        x.shoot(4);
        x.unload();
        x.load(1);
        x.shoot(5);
        x.unload();
        x.image(1);
        x.law(3, 6);
        x.load(0);
        x.shoot(0);
        return x;
    }

    static FilmCans busy() {
        FilmCans x = busyWithoutTape();
        Check.feed(x, "h1");
        return x;
    }

    /** Nothing in the camera. */
    static FilmCans noon() {
        FilmCans x = busy();
        x.unload();
        return x;
    }

    static FilmCans sixCans() {
        FilmCans x = busy();
        x.buy(5, 7);
        return x;
    }

    static FilmCans eightTakes() {
        FilmCans x = busy();
        x.ask(0, 1);
        x.ask(5, 60);
        return x;
    }

    /** Eight rolls of one foot, of can 0; nothing in the camera. */
    static FilmCans eightWait() {
        FilmCans x = of("h0,10,20,3;n60;n30;t0,1;t0,31;");
        for (int i = 0; i < 8; i++) {
            x.load(0);
            x.shoot(0);
            x.unload();
            x.again(0);
        }
        return x;
    }

    // ---- what stays

    /** The answer, and that the call leaves all as it was. */
    static void keepsAll(Supplier<FilmCans> scene, String call, ToLongFunction<FilmCans> f, long want) {
        due(call, f.applyAsLong(scene.get()), want);
        keepsBook(scene, scene, call, f);
        alike(call + ", tape: ", Sentences::tape, scene, scene, f);
        alike(call + ", fault: ", x -> new long[] {x.fault()}, scene, scene, f);
    }

    static void bad(Supplier<FilmCans> scene, String call, ToLongFunction<FilmCans> f) {
        keepsAll(scene, call, f, BAD);
    }

    static void state(Supplier<FilmCans> scene, String call, ToLongFunction<FilmCans> f) {
        keepsAll(scene, call, f, STATE);
    }

    static void full(Supplier<FilmCans> scene, String call, ToLongFunction<FilmCans> f) {
        keepsAll(scene, call, f, FULL);
    }

    /** Book, day, acts and images are those of the other scene, when the call was made. */
    static void keepsBook(Supplier<FilmCans> scene, Supplier<FilmCans> other, String call, ToLongFunction<FilmCans> f) {
        alike(call + ", what there is: ", Sentences::there, scene, other, f);
        alike(call + ", what is foretold: ", Sentences::foretold, scene, other, f);
        alike(call + ", the law: ", Sentences::laws, scene, other, f);
        alike(call + ", what can be undone: ", Sentences::undone, scene, other, f);
        alike(call + ", images: ", Sentences::images, scene, other, f);
    }

    /** Each look has objects of its own, so that none is used for more than 512 calls. */
    private static void alike(String call, Function<FilmCans, long[]> look, Supplier<FilmCans> scene,
            Supplier<FilmCans> other, ToLongFunction<FilmCans> f) {
        FilmCans x = scene.get();
        f.applyAsLong(x);
        long[] got = look.apply(x);
        long[] want = look.apply(other.get());
        due(call + "as many answers", got.length, want.length);
        for (int i = 0; i < Math.min(got.length, want.length); i++) {
            due(call + "answer " + i, got[i], want[i]);
        }
    }

    /** Where nothing but the way there may differ. */
    static void sameDay(String call, Supplier<FilmCans> scene, Supplier<FilmCans> other) {
        ToLongFunction<FilmCans> nothing = x -> 0;
        alike(call + ", what there is: ", Sentences::there, scene, other, nothing);
        alike(call + ", what is foretold: ", Sentences::foretold, scene, other, nothing);
        alike(call + ", the law: ", Sentences::laws, scene, other, nothing);
    }

    private static long[] there(FilmCans x) {
        Row row = new Row();
        for (int c = 0; c < 6; c++) {
            for (int what = 0; what < 8; what++) {
                row.add(x.can(c, what));
            }
        }
        for (int t = 0; t < 8; t++) {
            for (int what = 0; what < 4; what++) {
                row.add(x.take(t, what));
            }
        }
        for (int r = 0; r < 8; r++) {
            for (int what = 0; what < 3; what++) {
                row.add(x.roll(r, what));
            }
        }
        for (int what = 0; what < 8; what++) {
            row.add(x.sums(what));
        }
        for (int what = 0; what < 5; what++) {
            row.add(x.count(what));
        }
        row.add(x.batches(0));
        row.add(x.batches(1));
        return row.all();
    }

    static long[] foretold(FilmCans x) {
        Row row = new Row();
        for (int k = 0; k < 2; k++) {
            row.add(x.plan(k));
            row.add(x.rule(0, k));
            row.add(x.rule(1, k));
            row.add(x.fogged(3, k));
            row.add(x.drawn(5, 77, k));
        }
        for (int c = 0; c < 6; c++) {
            row.add(x.planOf(c));
            row.add(x.ruleOf(0, c));
            row.add(x.ruleOf(1, c));
            row.add(x.more(c));
            for (int t = 0; t < 8; t++) {
                row.add(x.fits(c, 1 << t));
            }
        }
        for (int t = 0; t < 8; t++) {
            row.add(x.longer(t));
        }
        row.add(x.needed());
        return row.all();
    }

    /** The law is told only by the call that changes it, so this look comes last. */
    private static long[] laws(FilmCans x) {
        return new long[] {x.law(0, 0), x.law(1, 1), x.law(2, 10), x.law(3, 0)};
    }

    private static long[] undone(FilmCans x) {
        Row row = new Row();
        row.add(x.count(5));
        for (int i = 0; i < 21; i++) {
            row.add(x.undo());
            row.add(x.sums(1));
            row.add(x.sums(2));
            row.add(x.sums(4));
            row.add(x.sums(6));
        }
        row.add(there(x));
        row.add(laws(x));
        return row.all();
    }

    private static long[] images(FilmCans x) {
        Row row = new Row();
        for (int k = 0; k < 2; k++) {
            row.add(x.restore(k));
            row.add(there(x));
            row.add(laws(x));
        }
        return row.all();
    }

    /** How many bytes there are, and what they are read as. */
    private static long[] tape(FilmCans x) {
        Row row = new Row();
        row.add(x.count(6));
        row.add(x.feed(','));
        row.add(x.book());
        row.add(x.fault());
        return row.all();
    }

    private static final class Row {
        private long[] answers = new long[512];
        private int many;

        void add(long... some) {
            for (long answer : some) {
                answers[many++] = answer;
            }
        }

        long[] all() {
            return Arrays.copyOf(answers, many);
        }
    }
}
