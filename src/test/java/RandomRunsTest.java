import java.util.Random;

/**
 * Runs of calls by fixed draws on the class and on the model, which must answer alike.
 * The document leaves free what an object answers behind its 512th call, so no run makes more.
 */
public final class RandomRunsTest {
    private static final int RUNS = 6000, CALLS = 512;
    /** The most calls of one step, of a text with what comes behind it, and of a look at all there is. */
    private static final int STEP = 30, TELL = 140, LOOK = 215;
    private final Check check = new Check();
    private final Random random;
    private final FilmCans x = new FilmCans();
    private final Model m = new Model();
    private final int run;
    /** Most takes that a book has here: the model tries all ways, so only some runs have all eight. */
    private final int takes;
    /** Whether most steps make rolls, so that eight wait and batches differ. */
    private final boolean rolling;
    /** Calls made on the object so far. */
    private int calls;

    private RandomRunsTest(int run) {
        this.run = run;
        random = new Random(run * 7919L + 13);
        takes = run % 6 == 0 ? 8 : run % 6 == 1 ? 6 : 4;
        rolling = run % 5 == 0;
    }

    public static void main(String[] args) {
        int runs = args.length > 0 ? Integer.parseInt(args[0]) : RUNS;
        int failed = 0;
        for (int run = 0; run < runs; run++) {
            RandomRunsTest test = new RandomRunsTest(run);
            test.go();
            if (test.check.failed()) {
                failed++;
                if (failed > 3) {
                    break;
                }
            }
        }
        System.out.println(failed == 0 ? runs + " runs are as due" : failed + " runs are not as due");
        if (failed != 0) {
            System.exit(1);
        }
    }

    /** Every other run ends with a look at all there is; the others go on with acts instead. */
    private void go() {
        int end = run % 2 == 0 ? LOOK : 0;
        if (random.nextInt(12) != 0) {
            tell();
        }
        while (hasRoomFor(STEP + end) && !check.failed()) {
            step(end);
        }
        if (end > 0) {
            lookAround();
        }
        check.holds("run " + run + " makes " + calls + " calls", calls <= CALLS);
    }

    private boolean hasRoomFor(int more) {
        return calls + more <= CALLS;
    }

    /** The answer of the one call that was made on the object for it. */
    private void same(String call, long got, long want) {
        calls++;
        check.due("run " + run + ", call " + calls + ": " + call, got, want);
    }

    private int draw(int least, int most) {
        return least + random.nextInt(most - least + 1);
    }

    /** Mostly as told, now and then beside it or far off. */
    private int near(int least, int most) {
        int k = random.nextInt(40);
        if (k == 0) return least - 1;
        if (k == 1) return most + 1;
        if (k == 2) return random.nextInt();
        if (k == 3) return least;
        if (k == 4) return most;
        return draw(least, most);
    }

    private int someCan() { return near(0, Math.max(0, m.count(0) - 1)); }
    private int someTake() { return near(0, Math.max(0, m.count(1) - 1)); }

    private String text() {
        boolean roomy = rolling || random.nextBoolean();
        StringBuilder b = new StringBuilder("h");
        b.append(draw(0, random.nextInt(3) == 0 ? 9 : 3)).append(',').append(draw(1, random.nextBoolean() ? 8 : 40)).append(',');
        b.append(draw(10, random.nextBoolean() ? 30 : 99)).append(',').append(draw(0, 20)).append(';');
        int cans = draw(1, 6);
        for (int i = 0; i < cans; i++) {
            b.append("nfgrs".charAt(random.nextInt(5))).append(draw(roomy ? 40 : 1, roomy ? 99 : 60)).append(';');
        }
        int n = draw(rolling ? 3 : 0, takes);
        boolean small = rolling || random.nextBoolean();
        for (int i = 0; i < n; i++) {
            b.append('t').append(random.nextBoolean() ? 0 : draw(0, 5)).append(',').append(draw(1, small ? 15 : 60)).append(';');
        }
        return b.toString();
    }

    private String spoiled(String text) {
        StringBuilder b = new StringBuilder(text);
        int at = random.nextInt(b.length());
        switch (random.nextInt(8)) {
            case 0: b.deleteCharAt(at); break;
            case 1: b.setCharAt(at, "hntfgrs;,0123456789 x".charAt(random.nextInt(21))); break;
            case 2: b.insert(at, "hntfgrs;,0123456789 x".charAt(random.nextInt(21))); break;
            case 3: b.setLength(at); break;
            case 4: b.append("n9;"); break;
            case 5: b.append("t0,1;t0,1;t0,1;t0,1;t0,1;t0,1;t0,1;t0,1;t0,1;"); break;
            case 6: b.insert(b.indexOf(";") + 1, "n1;n1;n1;n1;n1;n1;"); break;
            default: b.setCharAt(at, (char) random.nextInt(256)); break;
        }
        return b.toString();
    }

    private void tell() {
        String text = random.nextInt(4) == 0 ? spoiled(text()) : text();
        for (int i = 0; i < text.length(); i++) {
            same("feed(" + (int) text.charAt(i) + ")", x.feed(text.charAt(i)), m.feed(text.charAt(i)));
        }
        same("count(6)", x.count(6), m.count(6));
        same("book() of " + text, x.book(), m.book());
        same("fault()", x.fault(), m.fault());
        glance();
    }

    private void step(int end) {
        if (random.nextInt(60) == 0 && hasRoomFor(TELL + end)) {
            tell();
            return;
        }
        int k = random.nextInt(100);
        if (k < (rolling ? 50 : 5)) {
            haul();
            glance();
        } else if (k < 60) {
            act();
            glance();
        } else if (k < 93) {
            foretell();
        } else {
            rare();
            glance();
        }
    }

    private void act() {
        int a, b, c;
        switch (random.nextInt(17)) {
            case 0: case 1: case 2: a = someCan(); same("load(" + a + ")", x.load(a), m.load(a)); break;
            case 3: case 4: case 5: case 6: a = someTake(); same("shoot(" + a + ")", x.shoot(a), m.shoot(a)); break;
            case 7: case 8: case 9: same("unload()", x.unload(), m.unload()); break;
            case 10: if (random.nextInt(3) == 0) { same("lab()", x.lab(), m.lab()); } break;
            case 11: case 12: a = someTake(); same("again(" + a + ")", x.again(a), m.again(a)); break;
            case 13: a = someCan(); b = near(1, 5); same("become(" + a + ", " + b + ")", x.become(a, b), m.become(a, b)); break;
            case 14: a = someTake(); b = random.nextInt(2) * near(0, 5); c = near(1, random.nextBoolean() ? 12 : 60);
                same("demand(" + a + ", " + b + ", " + c + ")", x.demand(a, b, c), m.demand(a, b, c)); break;
            case 15: a = near(0, 3); b = lawFor(a); same("law(" + a + ", " + b + ")", x.law(a, b), m.law(a, b)); break;
            default: buyOrAsk(); break;
        }
    }

    private void haul() {
        int can = someCan();
        int take = someTake();
        same("load(" + can + ")", x.load(can), m.load(can));
        same("shoot(" + take + ")", x.shoot(take), m.shoot(take));
        same("unload()", x.unload(), m.unload());
        same("again(" + take + ")", x.again(take), m.again(take));
    }

    private int lawFor(int which) {
        if (which < 0 || which > 3) return near(0, 99);
        int[] range = Model.LAW_RANGE[which];
        return near(range[0], random.nextBoolean() ? range[1] : (range[0] + range[1]) / 3);
    }

    private void buyOrAsk() {
        int b;
        if (random.nextBoolean()) {
            int a = near(1, 5);
            b = near(1, 99);
            same("buy(" + a + ", " + b + ")", x.buy(a, b), m.buy(a, b));
        } else if (m.count(1) < takes || takes == 8) {
            int a = near(0, 5);
            b = near(1, 60);
            same("ask(" + a + ", " + b + ")", x.ask(a, b), m.ask(a, b));
        }
    }

    private void foretell() {
        int a, b, c;
        switch (random.nextInt(12)) {
            case 0: a = someCan(); b = random.nextInt(8) == 0 ? near(-1, 256) : openSome();
                same("fits(" + a + ", " + b + ")", x.fits(a, b), m.fits(a, b)); break;
            case 1: a = near(0, 1); same("plan(" + a + ")", x.plan(a), m.plan(a)); break;
            case 2: for (a = -1; a <= 6; a++) { same("planOf(" + a + ")", x.planOf(a), m.planOf(a)); } break;
            case 3: a = near(0, 1); b = near(0, 1); same("rule(" + a + ", " + b + ")", x.rule(a, b), m.rule(a, b)); break;
            case 4: for (a = -1; a <= 6; a++) { b = near(0, 1); same("ruleOf(" + b + ", " + a + ")", x.ruleOf(b, a), m.ruleOf(b, a)); } break;
            case 5: a = someTake(); same("longer(" + a + ")", x.longer(a), m.longer(a)); break;
            case 6: a = near(1, 5); same("more(" + a + ")", x.more(a), m.more(a)); break;
            case 7: same("needed()", x.needed(), m.needed()); break;
            case 8: a = near(0, 10); b = near(0, 1); same("fogged(" + a + ", " + b + ")", x.fogged(a, b), m.fogged(a, b)); break;
            case 9: a = near(0, takes == 8 ? 2 : 20); b = near(1, 999999); c = near(0, 1);
                if (takes < 8 || a < 4) { same("drawn(" + a + ", " + b + ", " + c + ")", x.drawn(a, b, c), m.drawn(a, b, c)); } break;
            case 10: a = near(0, 1); same("batches(" + a + ")", x.batches(a), m.batches(a)); break;
            default: a = someCan(); b = near(0, 5); same("as(" + a + ", " + b + ")", x.as(a, b), m.as(a, b)); break;
        }
    }

    private int openSome() {
        int set = 0;
        for (int t = 0; t < m.count(1); t++) {
            if (m.take(t, 2) == Model.NONE && random.nextBoolean()) set |= 1 << t;
        }
        return set;
    }

    private void rare() {
        int a;
        switch (random.nextInt(5)) {
            case 0: a = near(0, 1); same("image(" + a + ")", x.image(a), m.image(a)); break;
            case 1: if (random.nextInt(3) == 0) { a = near(0, 1); same("restore(" + a + ")", x.restore(a), m.restore(a)); } break;
            case 2: a = near(0, 255); same("feed(" + a + ")", x.feed(a), m.feed(a)); break;
            case 3: same("book()", x.book(), m.book()); break;
            default:
                for (int i = draw(1, random.nextInt(4) == 0 ? 25 : 4); i > 0; i--) {
                    same("undo()", x.undo(), m.undo());
                }
                break;
        }
    }

    /** Some of what there is, as a look at all would use the object up. */
    private void glance() {
        for (int i = 0; i < 3; i++) {
            int a, b;
            switch (random.nextInt(9)) {
                case 0: case 1: a = someCan(); b = near(0, 7); same("can(" + a + ", " + b + ")", x.can(a, b), m.can(a, b)); break;
                case 2: a = someTake(); b = near(0, 3); same("take(" + a + ", " + b + ")", x.take(a, b), m.take(a, b)); break;
                case 3: a = near(0, Math.max(0, m.count(4) - 1)); b = near(0, 2);
                    same("roll(" + a + ", " + b + ")", x.roll(a, b), m.roll(a, b)); break;
                case 4: case 5: a = near(0, 7); same("sums(" + a + ")", x.sums(a), m.sums(a)); break;
                case 6: a = near(0, 6); same("count(" + a + ")", x.count(a), m.count(a)); break;
                case 7: a = near(0, 1); same("batches(" + a + ")", x.batches(a), m.batches(a)); break;
                default: same("fault()", x.fault(), m.fault()); break;
            }
        }
    }

    private void lookAround() {
        for (int c = -1; c <= 6; c++) {
            for (int what = -1; what <= 8; what++) same("can(" + c + ", " + what + ")", x.can(c, what), m.can(c, what));
        }
        for (int t = -1; t <= 8; t++) {
            for (int what = -1; what <= 4; what++) same("take(" + t + ", " + what + ")", x.take(t, what), m.take(t, what));
        }
        for (int r = -1; r <= 8; r++) {
            for (int what = -1; what <= 3; what++) same("roll(" + r + ", " + what + ")", x.roll(r, what), m.roll(r, what));
        }
        for (int what = -1; what <= 8; what++) {
            same("sums(" + what + ")", x.sums(what), m.sums(what));
            same("count(" + what + ")", x.count(what), m.count(what));
        }
        booksAreEven();
    }

    private void booksAreEven() {
        int[] sums = new int[5];
        for (int what = 0; what < sums.length; what++) {
            sums[what] = x.sums(what);
            calls++;
        }
        check.due("run " + run + ": the books come out even", sums[1] + sums[2] + sums[3] + sums[4], sums[0]);
    }
}
