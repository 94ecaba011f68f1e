/** Each promise of the document by hand: ordinary inputs, the edges that it names, and wrong inputs. */
public final class PromisesTest {
    private static final int NONE = -1000000, BAD = -1000001, STATE = -1000002, FULL = -1000003;
    private static final int LEAST = Integer.MIN_VALUE, MOST = Integer.MAX_VALUE;
    private static final String LAW = "h1,5,20,3;";
    private static final String ALL_KINDS = "h3,10,60,5;n60;f40;g30;r50;s45;";
    private static final Check CHECK = new Check();

    public static void main(String[] args) {
        newObject();
        feed();
        bookNumbers();
        bookTokens();
        bookRoom();
        bookStands();
        fault();
        undoEach();
        undoMany();
        load();
        shoot();
        unload();
        unloadKept();
        lab();
        again();
        buy();
        ask();
        become();
        demand();
        law();
        can();
        take();
        roll();
        sums();
        batches();
        as();
        fits();
        plan();
        planOf();
        rule();
        ruleOf();
        longer();
        more();
        needed();
        fogged();
        drawn();
        image();
        restore();
        count();
        withoutBook();
        CHECK.end();
    }

    private static void due(String call, long got, long want) {
        CHECK.due(call, got, want);
    }

    private static FilmCans of(String text) {
        return Check.of(text);
    }

    /** What a text is answered with, and the number of its fault. */
    private static void reads(String text, int answer, int fault) {
        FilmCans x = new FilmCans();
        Check.feed(x, text);
        due("book() of " + text, x.book(), answer);
        due("fault() of " + text, x.fault(), fault);
        due("count(6) of " + text, x.count(6), 0);
        if (fault != 0) {
            due("plan(0) of " + text, x.plan(0), STATE);
        }
    }

    private static void faulty(String text, int place, int fault) {
        reads(text, -1000100 - place, fault);
    }

    // promise 1
    private static void newObject() {
        FilmCans x = new FilmCans();
        for (int what = 0; what <= 6; what++) {
            due("new: count(" + what + ")", x.count(what), 0);
        }
        for (int what = 0; what <= 7; what++) {
            due("new: sums(" + what + ")", x.sums(what), 0);
        }
        due("new: fault()", x.fault(), 0);
        due("new: needed()", x.needed(), STATE);
    }

    // promise 2
    private static void feed() {
        FilmCans x = new FilmCans();
        due("feed(-1)", x.feed(-1), BAD);
        due("feed(256)", x.feed(256), BAD);
        due("feed(least)", x.feed(LEAST), BAD);
        due("feed(most)", x.feed(MOST), BAD);
        due("count(6) behind refusals", x.count(6), 0);
        due("feed(0)", x.feed(0), 1);
        due("feed(255)", x.feed(255), 2);
        for (int i = 3; i <= 110; i++) {
            due("feed(110) as byte " + i, x.feed(110), i);
        }
        due("feed beyond 110", x.feed(110), FULL);
        due("feed(256) beyond 110", x.feed(256), BAD);
        due("count(6) of a full tape", x.count(6), 110);
        due("book() of a full tape", x.book(), -1000100);
        due("feed behind book", x.feed(104), 1);
    }

    // promise 3: the first and the last number that is as told, and the ones beside them
    private static void bookNumbers() {
        reads("h0,1,10,0;n1;", 1, 0);
        reads("h9,40,99,20;s99;t5,60;", 1, 0);
        reads("h09,01,10,00;n01;t00,01;", 1, 0);
        faulty("h10,1,10,0;n1;", 1, 2);
        faulty("h0,0,10,0;n1;", 3, 2);
        faulty("h0,41,10,0;n1;", 3, 2);
        faulty("h0,1,9,0;n1;", 5, 2);
        faulty("h0,1,100,0;n1;", 5, 1);
        faulty("h0,1,10,21;n1;", 8, 2);
        faulty("h0,1,10,0;n0;", 11, 2);
        faulty("h0,1,10,0;n100;", 11, 1);
        faulty("h0,1,10,0;n1;t6,1;", 14, 2);
        faulty("h0,1,10,0;n1;t0,0;", 16, 2);
        faulty("h0,1,10,0;n1;t0,61;", 16, 2);
        faulty("h0,1,10,0;n1;t000,1;", 14, 1);
        faulty("h0,1,10,0;n1;t0,0001;", 16, 1);
    }

    private static void bookTokens() {
        faulty("", 0, 1);
        faulty("n1;", 0, 1);
        faulty("H0,1,10,0;n1;", 0, 1);
        faulty(" h0,1,10,0;n1;", 0, 1);
        faulty("h", 1, 1);
        faulty("h,", 1, 1);
        faulty("hh", 1, 1);
        faulty("h0;1,10,0;n1;", 2, 1);
        faulty("h0,1,10,0,n1;", 9, 1);
        faulty("h0,1,10;n1;", 7, 1);
        faulty("h0,1,10,0;", 10, 1);
        faulty("h0,1,10,0;t0,1;", 10, 1);
        faulty("h0,1,10,0;x1;", 10, 1);
        faulty("h0,1,10,0;5;", 10, 1);
        faulty("h0,1,10,0;n;", 11, 1);
        faulty("h0,1,10,0;nn", 11, 1);
        faulty("h0,1,10,0;n1", 12, 1);
        faulty("h0,1,10,0;n1,", 12, 1);
        faulty("h0,1,10,0;n1;;", 13, 1);
        faulty("h0,1,10,0;n1;h0,1,10,0;", 13, 1);
        faulty("h0,1,10,0;n1; ", 13, 1);
        faulty("h0,1,10,0;n1;t", 14, 1);
        faulty("h0,1,10,0;n1;t0", 15, 1);
        faulty("h0,1,10,0;n1;t0;1;", 15, 1);
        faulty("h0,1,10,0;n1;t0,", 16, 1);
        faulty("h0,1,10,0;n1;t0,1", 17, 1);
        faulty("h0,1,10,0;n1;t0,1,", 17, 1);
        faulty("h0,1,10,0;n1;t0,1;n1;", 18, 1);
        faulty("h0,1,10,0;n1;t0,1;1", 18, 1);
        faulty("h0,1,10,0;n1;" + (char) 233, 13, 1);
        faulty("h0,1,10,0;n1" + (char) 0, 12, 1);
        // the first token that has a fault, though one behind it has a lesser one
        faulty("h10,0,9,x", 1, 2);
        faulty("h0,1,10,0;n0,", 11, 2);
    }

    private static void bookRoom() {
        String cans = "n1;f2;g3;r4;s5;n6;";
        String takes = "t0,1;t0,1;t0,1;t0,1;t0,1;t0,1;t0,1;t0,1;";
        reads("h0,1,10,0;" + cans, 6, 0);
        reads("h0,1,10,0;" + cans + takes, 6, 0);
        faulty("h0,1,10,0;" + cans + "s7;", 28, 3);
        faulty("h0,1,10,0;" + cans + "s", 28, 3);
        faulty("h0,1,10,0;" + cans + "x7;", 28, 1);
        faulty("h0,1,10,0;n1;" + takes + "t0,1;", 53, 3);
        faulty("h0,1,10,0;n1;" + takes + "t99", 53, 3);
        faulty("h0,1,10,0;n1;" + takes + "n1;", 53, 1);
        faulty("h0,1,10,0;" + cans + "t0,1;n1;", 33, 1);
    }

    private static void bookStands() {
        FilmCans x = of(LAW + "n50;n60;t0,7;");
        x.load(0);
        x.shoot(0);
        x.unload();
        x.image(1);
        Check.feed(x, LAW + "s9");
        due("book() with a fault", x.book(), -1000112);
        due("cans stay", x.count(0), 2);
        due("acts stay", x.count(5), 3);
        due("exposed stays", x.sums(3), 7);
        due("rolls stay", x.count(4), 1);
        due("undo() yet", x.undo(), 2);
        Check.feed(x, "h2,6,30,4;s9;");
        due("book() in place of one", x.book(), 1);
        due("kind of the new can", x.can(0, 0), 5);
        due("no takes", x.count(1), 0);
        due("no rolls", x.count(4), 0);
        due("no act", x.count(5), 0);
        due("undo() behind book()", x.undo(), STATE);
        for (int what = 1; what <= 7; what++) {
            due("new book: sums(" + what + ")", x.sums(what), what == 1 ? 9 : 0);
        }
        due("bought", x.sums(0), 9);
        due("lead by the new law", x.can(0, 5), 4);
        due("images stay", x.restore(1), 1);
        due("as the image was", x.sums(3), 7);
    }

    // promise 4
    private static void fault() {
        FilmCans x = of(LAW + "n1;n1;n1;n1;n1;n1;n1;");
        due("fault() 3", x.fault(), 3);
        Check.feed(x, LAW + "n50;");
        due("book() behind a fault", x.book(), 1);
        due("fault() is the latest", x.fault(), 3);
        x.image(0);
        Check.feed(x, "h99");
        x.book();
        due("fault() 2", x.fault(), 2);
        x.restore(0);
        due("fault() behind restore", x.fault(), 2);
        x.book();
        due("fault() 1", x.fault(), 1);
    }

    // promise 5
    private static void undoEach() {
        FilmCans x = of(LAW + "n50;t1,7;");
        x.load(0);
        due("undo() a load", x.undo(), 0);
        due("feet as before", x.can(0, 1), 50);
        due("place as before", x.can(0, 2), 0);
        due("waste as before", x.sums(4), 0);
        x.load(0);
        x.shoot(0);
        due("undo() a shot", x.undo(), 1);
        due("take is open", x.take(0, 2), NONE);
        due("camera roll as before", x.sums(7), 0);
        x.shoot(0);
        x.unload();
        due("undo() an unload", x.undo(), 2);
        due("in the camera", x.can(0, 2), 1);
        due("not short", x.can(0, 3), 0);
        due("camera roll", x.sums(7), 7);
        due("none waits", x.count(4), 0);
        x.unload();
        x.lab();
        due("undo() a lab", x.undo(), 3);
        due("one waits", x.roll(0, 1), 7);
        due("paid as before", x.sums(6), 0);
        x.again(0);
        due("undo() once more", x.undo(), 3);
        due("shot again", x.take(0, 2), 0);
        due("exposed again", x.sums(3), 7);
        x.buy(3, 9);
        due("undo() a can more", x.undo(), 3);
        due("one can", x.count(0), 1);
        due("bought as before", x.sums(0), 50);
        x.ask(3, 9);
        due("undo() a take more", x.undo(), 3);
        due("one take", x.count(1), 1);
        x.become(0, 5);
        due("undo() another kind", x.undo(), 3);
        due("kind as before", x.can(0, 0), 1);
        x.again(0);
        x.demand(0, 5, 9);
        due("undo() a demand", x.undo(), 4);
        due("kind of the take as before", x.take(0, 0), 1);
        due("feet of the take as before", x.take(0, 1), 7);
        x.law(0, 9);
        due("undo() a law", x.undo(), 4);
        due("lead as before", x.can(0, 5), 1);
        x.lab();
        x.demand(0, 0, 3);
        x.law(1, 1);
        x.buy(4, 30);
        x.load(1);
        x.shoot(0);
        x.unload();
        due("another roll", x.roll(0, 0) * 10 + x.roll(0, 2), 11);
        for (int k = 10; k >= 4; k--) {
            due("undo() back to the former roll", x.undo(), k);
        }
        due("can of the former roll", x.roll(0, 0), 0);
        due("feet of the former roll", x.roll(0, 1), 7);
        due("family of the former roll", x.roll(0, 2), 0);
        due("undo()", x.undo(), 3);
        due("undo()", x.undo(), 2);
        due("undo()", x.undo(), 1);
        due("undo()", x.undo(), 0);
        due("undo() of none", x.undo(), STATE);
        due("all undone", x.sums(1), 50);
    }

    private static void undoMany() {
        FilmCans x = of(LAW + "n50;t1,7;");
        due("undo() with no act", x.undo(), STATE);
        for (int feet = 1; feet <= 25; feet++) {
            x.demand(0, 0, feet);
            due("acts kept", x.count(5), Math.min(feet, 20));
        }
        x.demand(0, 6, 1);
        x.load(5);
        x.unload();
        due("refusals are no acts", x.count(5), 20);
        for (int k = 19; k >= 0; k--) {
            due("undo() of many", x.undo(), k);
            due("feet then", x.take(0, 1), k + 5);
        }
        due("the oldest are forgotten", x.undo(), STATE);
        // acts by which nothing becomes another are acts
        x.demand(0, 0, 5);
        x.law(2, 20);
        due("acts without change", x.count(5), 2);
        due("foretold is no act", x.plan(0) * 0 + x.count(5), 2);
        x.image(0);
        due("an image is no act", x.count(5), 2);
    }

    // promise 6
    private static void load() {
        FilmCans x = of("h4,5,20,3;n50;r8;s7;n4;n3;");
        due("load(-1)", x.load(-1), BAD);
        due("load(5)", x.load(5), BAD);
        due("load(most)", x.load(MOST), BAD);
        due("feet less than lead, n3", x.load(4), STATE);
        due("feet less than lead, s7", x.load(2), STATE);
        due("refusals change nothing", x.sums(4), 0);
        due("load of all but lead", x.load(3), 0);
        due("load with one in the camera", x.load(0), STATE);
        due("load of that in the camera", x.load(3), STATE);
        due("BAD ahead of STATE", x.load(5), BAD);
        due("waste", x.sums(4), 4);
        x.unload();
        due("load of a spent one", x.load(3), STATE);
        due("load of a reversal one", x.load(1), 0);
        due("waste of twice the leader", x.sums(4), 12);
        x.unload();
        due("load of a negative", x.load(0), 46);
        due("in the camera", x.can(0, 2), 1);
        due("feet in the camera", x.sums(2), 46);
        x.unload();
        due("a short end is threaded again", x.load(0), 42);
        due("short yet", x.can(0, 3), 1);
    }

    // promise 7
    private static void shoot() {
        FilmCans x = of("h0,5,20,3;n50;g11;t4,5;t1,20;t0,30;t3,10;t3,5;t3,11;");
        due("shoot(-1)", x.shoot(-1), BAD);
        due("shoot(6)", x.shoot(6), BAD);
        due("no can in the camera", x.shoot(0), STATE);
        x.load(0);
        due("does not serve", x.shoot(0), STATE);
        due("does not serve a finer kind", x.shoot(3), STATE);
        due("shoot(1)", x.shoot(1), 30);
        due("is shot", x.shoot(1), STATE);
        due("shoot all that is left", x.shoot(2), 0);
        due("BAD with one in the camera", x.shoot(6), BAD);
        due("exposed", x.sums(3), 50);
        due("waste", x.sums(4), 0);
        due("camera roll", x.sums(7), 50);
        due("shot on", x.take(2, 2), 0);
        due("unload", x.unload(), 0);
        x.load(1);
        due("not enough with the slate", x.shoot(5), FULL);
        due("full changes nothing", x.sums(7), 0);
        due("just enough with the slate", x.shoot(3), 0);
        due("slate is waste", x.sums(4), 1);
        due("slate is not exposed", x.sums(3), 60);
        due("slate is not of the roll", x.sums(7), 10);
        due("full by five", x.shoot(4), FULL);
        due("STATE ahead of FULL", x.shoot(0), STATE);
    }

    // promise 8
    private static void unload() {
        FilmCans x = new FilmCans();
        due("unload() without a book", x.unload(), STATE);
        x = of("h0,40,99,3;n99;t0,1;");
        due("unload() of none", x.unload(), STATE);
        x.load(0);
        due("unload() of a roll of 0", x.unload(), 99);
        due("no roll of 0 waits", x.count(4), 0);
        due("short", x.can(0, 3), 1);
        for (int i = 1; i <= 8; i++) {
            x.load(0);
            x.shoot(0);
            due("unload() " + i, x.unload(), 99 - i);
            x.again(0);
        }
        due("8 wait", x.count(4), 8);
        x.load(0);
        due("a roll of 0 with 8 that wait", x.unload(), 91);
        x.load(0);
        x.shoot(0);
        int acts = x.count(5);
        due("a ninth", x.unload(), FULL);
        due("full is no act", x.count(5), acts);
        due("in the camera yet", x.can(0, 2), 1);
        x.lab();
        due("behind the lab", x.unload(), 90);
        due("one waits", x.count(4), 1);
    }

    private static void unloadKept() {
        keeps("n", 10, 10, 10);
        keeps("n", 10, 9, 0);
        keeps("g", 10, 10, 10);
        keeps("r", 10, 9, 0);
        keeps("r", 10, 10, 10);
        keeps("f", 11, 5, 5);
        keeps("f", 11, 4, 0);
        keeps("f", 10, 4, 0);
        keeps("f", 1, 1, 1);
        keeps("n", 1, 1, 1);
        keeps("s", 1, 99, 0);
        FilmCans x = of("h1,5,20,3;f1;n6;r7;");
        x.law(1, 1);
        x.load(0);
        due("an end of 0 is not kept", x.unload(), 0);
        due("spent", x.can(0, 2), 2);
        x.load(1);
        x.law(1, 6);
        due("the law of now", x.unload(), 0);
        due("thrown away", x.sums(4), 7);
        x.load(2);
        x.law(1, 5);
        due("kept by the law of now", x.unload(), 5);
    }

    private static void keeps(String sort, int keep, int end, int answer) {
        FilmCans x = of("h0," + keep + ",20,3;" + sort + end + ";");
        x.load(0);
        String call = "unload() of " + sort + end + ", keep " + keep;
        due(call, x.unload(), answer);
        due(call + ", place", x.can(0, 2), answer > 0 ? 0 : 2);
        due(call + ", short", x.can(0, 3), answer > 0 ? 1 : 0);
        due(call + ", feet", x.can(0, 1), answer);
        due(call + ", waste", x.sums(4), answer > 0 ? 0 : end);
    }

    /** Rolls of these feet wait: on can 0, negative, if more than 0, else on can 1, reversal. */
    private static FilmCans waiting(int batch, int fee, int... feet) {
        FilmCans x = of("h0,1," + batch + "," + fee + ";n99;r99;t0,1;");
        for (int f : feet) {
            x.demand(0, 0, Math.abs(f));
            int can = f > 0 ? 0 : 1;
            if (x.can(can, 1) < Math.abs(f) || x.can(can, 2) != 0) {
                can = x.buy(f > 0 ? 1 : 4, 99);
            }
            x.load(can);
            x.shoot(0);
            x.unload();
            x.again(0);
        }
        return x;
    }

    // promise 9
    private static void lab() {
        due("lab() without a book", new FilmCans().lab(), STATE);
        FilmCans x = waiting(20, 3);
        due("lab() with none", x.lab(), STATE);
        x = waiting(20, 3, 12, -5, 8, 1, -15, 21, 20);
        due("waiting", x.sums(5), 82);
        due("lab()", x.lab(), 5);
        due("paid", x.sums(6), 82 + 5 * 3);
        due("none waits", x.count(4), 0);
        due("lab() once more", x.lab(), STATE);
        x = waiting(10, 0, 11, 1);
        due("one longer than a batch", x.lab(), 2);
        due("paid without fee", x.sums(6), 12);
        x = waiting(10, 20, 6, 6, 4, 4);
        due("into the first of several", x.lab(), 2);
        due("paid by fee", x.sums(6), 60);
        x = waiting(10, 20, 10);
        x.law(2, 11);
        x.law(3, 1);
        x.lab();
        due("fee of now", x.sums(6), 11);
    }

    // promise 10
    private static void again() {
        FilmCans x = of("h0,5,20,3;n50;n50;t0,10;t0,20;");
        due("again(-1)", x.again(-1), BAD);
        due("again(2)", x.again(2), BAD);
        due("again of an open one", x.again(0), STATE);
        x.load(1);
        x.shoot(0);
        x.shoot(1);
        due("again(0)", x.again(0), 1);
        due("open", x.take(0, 2), NONE);
        due("exposed", x.sums(3), 20);
        due("waste", x.sums(4), 10);
        due("camera roll stays", x.sums(7), 30);
        due("feet stay", x.can(1, 1), 20);
        due("shot on can 1", x.can(1, 4), 2);
        due("again once more", x.again(0), STATE);
        x.unload();
        due("again(1), its can on the shelf", x.again(1), 1);
        due("roll stays", x.roll(0, 1), 30);
        due("waste of both", x.sums(4), 30);
    }

    // promise 11
    private static void buy() {
        due("no book ahead of BAD", new FilmCans().buy(9, 9), STATE);
        FilmCans x = of(LAW + "n50;");
        due("buy(0, 9)", x.buy(0, 9), BAD);
        due("buy(6, 9)", x.buy(6, 9), BAD);
        due("buy(1, 0)", x.buy(1, 0), BAD);
        due("buy(1, 100)", x.buy(1, 100), BAD);
        due("buy(1, 99)", x.buy(1, 99), 1);
        due("buy(5, 1)", x.buy(5, 1), 2);
        due("kind", x.can(2, 0), 5);
        due("feet", x.can(1, 1), 99);
        due("place", x.can(1, 2), 0);
        due("short", x.can(1, 3), 0);
        due("bought", x.sums(0), 150);
        due("buy", x.buy(2, 2), 3);
        due("buy", x.buy(3, 2), 4);
        due("buy", x.buy(4, 2), 5);
        due("a seventh", x.buy(4, 2), FULL);
        due("BAD ahead of FULL", x.buy(4, 100), BAD);
        due("cans", x.count(0), 6);
        due("bought of six", x.sums(0), 156);
        FilmCans y = of("h0,40,20,3;n50;n20;");
        y.load(1);
        y.unload();
        y.undo();
        y.undo();
        y.load(0);
        y.unload();
        due("short is told of the can", y.can(0, 3), 1);
        due("a can that is bought is not short", y.can(y.buy(1, 50), 3), 0);
    }

    // promise 12
    private static void ask() {
        due("no book ahead of BAD", new FilmCans().ask(0, 61), STATE);
        FilmCans x = of(LAW + "n50;");
        due("ask(-1, 9)", x.ask(-1, 9), BAD);
        due("ask(6, 9)", x.ask(6, 9), BAD);
        due("ask(0, 0)", x.ask(0, 0), BAD);
        due("ask(0, 61)", x.ask(0, 61), BAD);
        due("ask(0, 60)", x.ask(0, 60), 0);
        due("ask(5, 1)", x.ask(5, 1), 1);
        due("kind", x.take(1, 0), 5);
        due("feet", x.take(0, 1), 60);
        due("open", x.take(1, 2), NONE);
        for (int i = 2; i < 8; i++) {
            due("ask", x.ask(1, i), i);
        }
        due("a ninth", x.ask(1, 1), FULL);
        due("BAD ahead of FULL", x.ask(1, 61), BAD);
        due("takes", x.count(1), 8);
    }

    // promise 13
    private static void become() {
        FilmCans x = of("h3,10,60,5;n60;s45;t0,5;");
        due("become(-1, 1)", x.become(-1, 1), BAD);
        due("become(2, 1)", x.become(2, 1), BAD);
        due("become(0, 0)", x.become(0, 0), BAD);
        due("become(0, 6)", x.become(0, 6), BAD);
        due("it is that", x.become(0, 1), STATE);
        due("become(0, 2)", x.become(0, 2), 1);
        due("become(0, 5)", x.become(0, 5), 2);
        due("lead of another kind", x.can(0, 5), 6);
        x.load(0);
        due("in the camera", x.become(0, 1), STATE);
        due("BAD ahead of STATE", x.become(0, 6), BAD);
        x.unload();
        due("spent", x.become(0, 1), STATE);
        due("become(1, 4)", x.become(1, 4), 5);
        x.load(1);
        x.shoot(0);
        x.unload();
        x.become(1, 1);
        due("a roll's family is that of its day", x.roll(0, 2), 1);
    }

    // promise 14
    private static void demand() {
        FilmCans x = of(LAW + "n50;t0,7;t0,8;");
        due("demand(-1, 0, 1)", x.demand(-1, 0, 1), BAD);
        due("demand(2, 0, 1)", x.demand(2, 0, 1), BAD);
        due("demand(0, -1, 1)", x.demand(0, -1, 1), BAD);
        due("demand(0, 6, 1)", x.demand(0, 6, 1), BAD);
        due("demand(0, 0, 0)", x.demand(0, 0, 0), BAD);
        due("demand(0, 0, 61)", x.demand(0, 0, 61), BAD);
        due("demand(0, 5, 60)", x.demand(0, 5, 60), 7);
        due("demand(0, 1, 1)", x.demand(0, 1, 1), 60);
        due("kind", x.take(0, 0), 1);
        due("feet", x.take(0, 1), 1);
        due("as it was", x.demand(0, 1, 1), 1);
        x.load(0);
        x.shoot(0);
        due("shot", x.demand(0, 1, 1), STATE);
        due("BAD ahead of STATE", x.demand(0, 1, 61), BAD);
        due("acts", x.count(5), 5);
    }

    // promise 15
    private static void law() {
        due("no book ahead of BAD", new FilmCans().law(4, 0), STATE);
        FilmCans x = of(LAW + "n50;r50;");
        int[][] ends = {{0, 9, 1}, {1, 40, 5}, {10, 99, 20}, {0, 20, 3}};
        for (int which = 0; which < 4; which++) {
            int least = ends[which][0];
            int most = ends[which][1];
            due("law(" + which + "), below", x.law(which, least - 1), BAD);
            due("law(" + which + "), above", x.law(which, most + 1), BAD);
            due("law(" + which + "), least", x.law(which, least), ends[which][2]);
            due("law(" + which + "), most", x.law(which, most), least);
            due("law(" + which + "), as it was", x.law(which, most), most);
        }
        due("law(-1, 5)", x.law(-1, 5), BAD);
        due("law(4, 5)", x.law(4, 5), BAD);
        due("law(most, 5)", x.law(MOST, 5), BAD);
        due("acts", x.count(5), 12);
        due("lead", x.can(0, 5), 9);
        due("lead of a reversal one", x.can(1, 5), 18);
        due("least kept", x.can(0, 7), 40);
    }

    // promise 16
    private static void can() {
        FilmCans x = of(ALL_KINDS + "t0,20;t0,5;t1,6;");
        int[][] rows = {{1, 60, 0, 0, 0, 3, 0, 10}, {2, 40, 0, 0, 0, 3, 0, 5}, {3, 30, 0, 0, 0, 3, 1, 10},
            {4, 50, 0, 0, 0, 6, 0, 10}, {5, 45, 0, 0, 0, 6, 0, NONE}};
        for (int c = 0; c < 5; c++) {
            for (int what = 0; what < 8; what++) {
                due("can(" + c + ", " + what + ")", x.can(c, what), rows[c][what]);
            }
            due("can(c, -1)", x.can(c, -1), BAD);
            due("can(c, 8)", x.can(c, 8), BAD);
        }
        due("can(5, 0)", x.can(5, 0), BAD);
        due("can(-1, 0)", x.can(-1, 0), BAD);
        x.load(1);
        x.shoot(0);
        x.shoot(2);
        due("where", x.can(1, 2), 1);
        due("feet", x.can(1, 1), 11);
        due("shot on it", x.can(1, 4), 5);
        x.unload();
        due("where", x.can(1, 2), 0);
        due("short", x.can(1, 3), 1);
        due("shot on it yet", x.can(1, 4), 5);
        x.again(0);
        due("shot on it", x.can(1, 4), 4);
        x.load(1);
        x.law(1, 40);
        x.unload();
        due("where", x.can(1, 2), 2);
        due("feet", x.can(1, 1), 0);
        due("short from then on", x.can(1, 3), 1);
        due("least kept of FAST", x.can(1, 7), 20);
        x.law(1, 1);
        due("least kept of FAST by 1", x.can(1, 7), 1);
        x.law(1, 3);
        due("least kept of FAST by 3", x.can(1, 7), 1);
    }

    // promise 17
    private static void take() {
        FilmCans x = of(ALL_KINDS + "t0,20;t1,15;t2,14;t3,10;t4,25;t5,30;");
        int[] served = {31, 7, 2, 4, 24, 16};
        int[] feet = {20, 15, 14, 10, 25, 30};
        for (int t = 0; t < 6; t++) {
            due("take(t, 0)", x.take(t, 0), t);
            due("take(t, 1)", x.take(t, 1), feet[t]);
            due("take(t, 2)", x.take(t, 2), NONE);
            due("take(t, 3)", x.take(t, 3), served[t]);
            due("take(t, -1)", x.take(t, -1), BAD);
            due("take(t, 4)", x.take(t, 4), BAD);
        }
        due("take(6, 0)", x.take(6, 0), BAD);
        due("take(-1, 0)", x.take(-1, 0), BAD);
        x.load(4);
        x.shoot(0);
        due("shot on", x.take(0, 2), 4);
        x.unload();
        due("a spent one serves yet", x.take(0, 3), 31);
        x.become(0, 4);
        due("another kind serves others", x.take(4, 3), 25);
        due("and not the former", x.take(1, 3), 6);
    }

    // promise 18
    private static void roll() {
        FilmCans x = waiting(20, 3, 12, -5, 8);
        int[][] rows = {{0, 12, 0}, {1, 5, 1}, {0, 8, 0}};
        for (int r = 0; r < 3; r++) {
            for (int what = 0; what < 3; what++) {
                due("roll(" + r + ", " + what + ")", x.roll(r, what), rows[r][what]);
            }
            due("roll(r, 3)", x.roll(r, 3), BAD);
            due("roll(r, -1)", x.roll(r, -1), BAD);
        }
        due("roll(3, 0)", x.roll(3, 0), BAD);
        due("roll(-1, 0)", x.roll(-1, 0), BAD);
        x.lab();
        due("roll(0, 0) behind the lab", x.roll(0, 0), BAD);
        FilmCans y = of("h0,1,20,3;g20;s20;t0,4;t0,5;");
        y.load(1);
        y.shoot(0);
        y.unload();
        y.load(0);
        y.shoot(1);
        y.unload();
        due("family of a strip", y.roll(0, 2), 1);
        due("family of a fine one", y.roll(1, 2), 0);
    }

    // promise 19
    private static void sums() {
        FilmCans x = of("h2,10,60,5;g30;r50;t0,5;t0,6;");
        x.load(0);
        x.shoot(0);
        x.unload();
        x.load(1);
        x.shoot(1);
        int[] want = {80, 22, 40, 11, 7, 5, 0, 6};
        for (int what = 0; what < 8; what++) {
            due("sums(" + what + ")", x.sums(what), want[what]);
        }
        x.lab();
        due("paid", x.sums(6), 10);
        due("waiting", x.sums(5), 0);
        x.unload();
        due("camera roll", x.sums(7), 0);
        due("in the camera", x.sums(2), 0);
        due("shelf", x.sums(1), 62);
        due("sums(-1)", x.sums(-1), BAD);
        due("sums(8)", x.sums(8), BAD);
        due("sums(most)", x.sums(MOST), BAD);
    }

    // promise 20
    private static void batches() {
        FilmCans x = waiting(10, 0, 4, 4, 6, 6);
        due("by lab", x.batches(0), 3);
        due("fewest", x.batches(1), 2);
        due("nothing changes", x.count(4), 4);
        due("batches(2)", x.batches(2), BAD);
        due("batches(-1)", x.batches(-1), BAD);
        x = waiting(10, 0, 5, -5);
        due("families apart, by lab", x.batches(0), 2);
        due("families apart, fewest", x.batches(1), 2);
        x = waiting(10, 0, 11, 60);
        due("longer than a batch, by lab", x.batches(0), 2);
        due("longer than a batch, fewest", x.batches(1), 2);
        x = waiting(10, 0, 3, -3, 3, -3, 4, -4, 6, 5);
        due("eight, by lab", x.batches(0), 4);
        due("eight, fewest", x.batches(1), 4);
        x.law(2, 99);
        due("a greater batch, by lab", x.batches(0), 2);
        due("a greater batch, fewest", x.batches(1), 2);
        x = waiting(10, 0, -4, 4, -6, 6);
        due("a reversal one first, by lab", x.batches(0), 2);
        due("a reversal one first, fewest", x.batches(1), 2);
        due("once more, by lab", x.batches(0), 2);
        x = waiting(10, 0);
        due("none, by lab", x.batches(0), 0);
        due("none, fewest", x.batches(1), 0);
    }

    // promise 21
    private static void as() {
        FilmCans x = of(ALL_KINDS);
        int[] kinds = {0b000011, 0b000111, 0b001011, 0b010001, 0b110001};
        for (int c = 0; c < 5; c++) {
            for (int k = 0; k < 6; k++) {
                due("as(" + c + ", " + k + ")", x.as(c, k), (kinds[c] >> k & 1) == 1 ? c : NONE);
            }
            due("as(c, 6)", x.as(c, 6), BAD);
            due("as(c, -1)", x.as(c, -1), BAD);
        }
        due("as(5, 0)", x.as(5, 0), BAD);
        due("as(-1, 0)", x.as(-1, 0), BAD);
    }

    // promise 22
    private static void fits() {
        FilmCans x = of("h2,10,60,5;g30;r10;s4;t0,8;t1,9;t3,7;t4,6;t0,4;");
        due("none", x.fits(0, 0), 30);
        due("one", x.fits(0, 1), 19);
        due("three with slates", x.fits(0, 7), 1);
        due("not so many", x.fits(0, 23), NONE);
        due("does not serve all", x.fits(0, 9), NONE);
        due("just so many", x.fits(1, 8), 0);
        due("one too many", x.fits(1, 1), NONE);
        due("less than lead, none", x.fits(2, 0), 4);
        due("less than lead", x.fits(2, 16), NONE);
        due("no such take", x.fits(0, 32), BAD);
        due("negative", x.fits(0, -1), BAD);
        due("least", x.fits(0, LEAST), BAD);
        due("no such can", x.fits(3, 0), BAD);
        due("no such can", x.fits(-1, 0), BAD);
        x.load(0);
        due("no lead in the camera", x.fits(0, 1), 19);
        x.shoot(1);
        due("not open", x.fits(0, 2), BAD);
        due("behind a shot", x.fits(0, 0), 18);
        due("behind a shot, two", x.fits(0, 5), 1);
        x.law(1, 40);
        x.unload();
        due("no room", x.fits(0, 1), NONE);
        due("no room, none", x.fits(0, 0), NONE);
        due("no room, BAD", x.fits(0, 2), BAD);
    }

    // promise 23
    private static void plan() {
        FilmCans x = of(ALL_KINDS + "t0,20;t1,15;t3,10;t4,25;t5,30;t2,12;");
        due("losses", x.plan(0), 29);
        due("rooms", x.plan(1), 4);
        due("plan(2)", x.plan(2), BAD);
        due("plan(-1)", x.plan(-1), BAD);
        x = of("h0,5,20,3;n50;");
        due("no takes, losses", x.plan(0), 0);
        due("no takes, rooms", x.plan(1), 0);
        x.ask(0, 51 - 1);
        due("just placed", x.plan(0), 0);
        x.demand(0, 0, 51);
        due("not placed", x.plan(0), NONE);
        due("not placed, rooms", x.plan(1), NONE);
        x.demand(0, 4, 1);
        due("not served", x.plan(0), NONE);
        // no lead in the camera, an end that is kept, an end that is not
        x = of("h3,10,20,3;n50;n50;t0,20;");
        due("lead", x.plan(0), 3);
        x.load(1);
        due("no lead in the camera", x.plan(0), 0);
        due("on that in the camera", x.planOf(1), 1);
        x.demand(0, 0, 38);
        due("end of 9 there, 9 on the other: lead more", x.plan(0), 9);
        x = of("h0,10,20,3;n40;n40;t0,20;t0,15;");
        due("least losses ahead of fewest rooms", x.plan(0), 0);
        due("two rooms", x.plan(1), 2);
        x = of("h0,5,20,3;n40;n40;t0,20;t0,15;");
        due("fewest rooms of equal losses", x.plan(1), 1);
        due("the end is kept", x.plan(0), 0);
        x = of("h0,1,20,3;s40;t0,20;");
        due("no end of a strip is kept", x.plan(0), 20);
        x = of("h0,1,20,3;s99;t0,1;");
        due("nor the greatest", x.plan(0), 98);
        x = of("h0,20,20,3;f30;t0,20;");
        due("half of keep for a fast one", x.plan(0), 0);
        x.law(1, 22);
        due("more than half", x.plan(0), 10);
        x = of("h0,40,20,3;n30;t0,20;");
        x.load(0);
        x.unload();
        due("no room is left", x.plan(0), NONE);
    }

    // promise 24
    private static void planOf() {
        FilmCans x = of(ALL_KINDS + "t0,20;t1,15;t3,10;t4,25;t5,30;t2,12;");
        int[] sets = {0, 33, 6, 8, 16};
        for (int c = 0; c < 5; c++) {
            due("planOf(" + c + ")", x.planOf(c), sets[c]);
        }
        due("planOf(5)", x.planOf(5), BAD);
        due("planOf(-1)", x.planOf(-1), BAD);
        // of several, can 0 has the least set
        x = of("h0,1,20,3;n40;n40;t0,20;t0,15;");
        due("none on can 0", x.planOf(0), 0);
        due("all on can 1", x.planOf(1), 3);
        x = of("h0,1,20,3;n40;n40;n40;t0,20;t0,20;t0,20;t0,20;");
        due("least set on can 0", x.planOf(0), 0);
        due("then on can 1", x.planOf(1), 3);
        due("then on can 2", x.planOf(2), 12);
        // the fewest rooms stand ahead of the least set
        x = of("h0,1,20,3;n40;n20;n20;t0,20;t0,20;");
        due("both on can 0", x.planOf(0), 3);
        due("none on can 1", x.planOf(1), 0);
        // the least losses stand ahead of both: 0 on cans 1 and 2, 10 on can 0
        x = of("h0,20,20,3;n50;n20;n20;t0,20;t0,20;");
        due("none on can 0", x.planOf(0), 0);
        due("one on can 1", x.planOf(1), 1);
        due("one on can 2", x.planOf(2), 2);
        x = of("h0,40,20,3;n10;n50;t0,20;");
        x.load(0);
        x.unload();
        due("no room", x.planOf(0), 0);
        due("the other", x.planOf(1), 1);
        x.demand(0, 5, 1);
        due("none", x.planOf(1), NONE);
    }

    // promise 25
    private static void rule() {
        FilmCans x = of(ALL_KINDS + "t0,20;t1,15;t3,10;t4,25;t5,30;t2,12;");
        due("rule(0, 0)", x.rule(0, 0), 31);
        due("rule(0, 1)", x.rule(0, 1), 5);
        due("rule(1, 0)", x.rule(1, 0), NONE);
        due("rule(1, 1)", x.rule(1, 1), NONE);
        due("rule(2, 0)", x.rule(2, 0), BAD);
        due("rule(-1, 0)", x.rule(-1, 0), BAD);
        due("rule(0, 2)", x.rule(0, 2), BAD);
        due("rule(0, -1)", x.rule(0, -1), BAD);
        x = of("h1,5,20,3;n28;n14;t0,10;t0,15;t0,4;");
        due("first fit: losses", x.rule(0, 0), 1 + 2 + 1);
        due("first fit: rooms", x.rule(0, 1), 2);
        due("tightest: losses", x.rule(1, 0), 1 + 1 + 3);
        due("tightest: rooms", x.rule(1, 1), 2);
        x = of("h1,5,20,3;n30;");
        due("no takes", x.rule(0, 0), 0);
        due("no takes", x.rule(1, 1), 0);
    }

    // promise 26
    private static void ruleOf() {
        FilmCans x = of("h1,5,20,3;n28;n14;t0,10;t0,15;t0,4;");
        due("first fit, can 0", x.ruleOf(0, 0), 3);
        due("first fit, can 1", x.ruleOf(0, 1), 4);
        due("tightest, can 0", x.ruleOf(1, 0), 6);
        due("tightest, can 1", x.ruleOf(1, 1), 1);
        due("ruleOf(2, 0)", x.ruleOf(2, 0), BAD);
        due("ruleOf(-1, 0)", x.ruleOf(-1, 0), BAD);
        due("ruleOf(0, 2)", x.ruleOf(0, 2), BAD);
        due("ruleOf(0, -1)", x.ruleOf(0, -1), BAD);
        // lead of a reversal one counts: 8 are left there, 9 on the other
        x = of("h1,5,20,3;n20;r20;t0,10;");
        due("tightest with lead", x.ruleOf(1, 1), 1);
        due("first", x.ruleOf(0, 0), 1);
        // slate counts: 8 are left on the fine one
        x = of("h1,5,20,3;n20;g20;t0,10;");
        due("tightest with slate", x.ruleOf(1, 1), 1);
        x = of("h1,5,20,3;n20;n20;t0,10;");
        due("of several the first", x.ruleOf(1, 0), 1);
        FilmCans y = of("h0,5,20,3;n99;n10;t0,10;");
        due("none left is the tightest", y.ruleOf(1, 1), 1);
        y = of("h0,5,20,3;n99;t0,1;");
        due("the most left on the only one", y.ruleOf(1, 0), 1);
        x.load(0);
        due("the camera's has lost its lead already", x.ruleOf(1, 0), 1);
        x.law(0, 2);
        due("more lead on the shelf", x.ruleOf(1, 1), 1);
        x.law(1, 40);
        x.unload();
        due("no room", x.ruleOf(0, 0), 0);
        due("the other", x.ruleOf(0, 1), 1);
        x.ask(5, 5);
        due("none", x.ruleOf(0, 1), NONE);
        due("none", x.ruleOf(1, 1), NONE);
    }

    // promise 27
    private static void longer() {
        FilmCans x = of("h2,5,20,3;n30;g20;t0,10;t3,12;");
        due("on the greater", x.longer(0), 28);
        due("on the fine one", x.longer(1), 17);
        due("longer(2)", x.longer(2), BAD);
        due("longer(-1)", x.longer(-1), BAD);
        x.demand(0, 0, 29);
        due("less than it has", x.longer(0), 28);
        due("the other is too long", x.longer(1), NONE);
        x.demand(0, 3, 3);
        due("together on one", x.longer(1), 13);
        x.demand(1, 3, 18);
        due("other takes all", x.longer(0), NONE);
        x.demand(1, 3, 14);
        due("longer by two slates", x.longer(0), 2);
        x.buy(1, 99);
        x.demand(0, 0, 1);
        due("60 at most", x.longer(0), 60);
        x.load(2);
        x.shoot(0);
        due("shot", x.longer(0), STATE);
        due("in the camera without lead", x.longer(1), 17);
        x = of("h9,5,20,3;n9;t0,1;");
        due("no foot", x.longer(0), NONE);
        x.law(0, 8);
        due("one foot", x.longer(0), 1);
    }

    // promise 28
    private static void more() {
        FilmCans x = of("h2,5,20,3;n30;t0,10;");
        due("without", x.more(1), 0);
        due("more(0)", x.more(0), BAD);
        due("more(6)", x.more(6), BAD);
        x.demand(0, 0, 60);
        due("negative", x.more(1), 62);
        due("fast", x.more(2), 62);
        due("fine", x.more(3), 63);
        due("reversal", x.more(4), 64);
        due("strip", x.more(5), 64);
        x.demand(0, 1, 60);
        due("not served", x.more(4), NONE);
        x.ask(1, 20);
        due("the other has its place", x.more(1), 62);
        x.ask(1, 20);
        due("two on the new one", x.more(3), 60 + 20 + 2 + 2);
        x.ask(1, 15);
        due("99", x.more(1), 97);
        x.demand(3, 1, 17);
        due("99 at most", x.more(1), 99);
        x.demand(3, 1, 18);
        due("100", x.more(1), NONE);
        x = of("h0,5,20,3;n1;n1;n1;n1;n1;n1;t0,5;");
        due("a seventh", x.more(1), 5);
        due("cans as before", x.count(0), 6);
    }

    // promise 29
    private static void needed() {
        FilmCans x = of("h2,5,20,3;n30;n30;g20;t0,10;t3,12;");
        due("the fine one", x.needed(), 4);
        x.ask(0, 16);
        due("either of two", x.needed(), 4);
        x.ask(0, 27);
        due("all", x.needed(), 7);
        x.ask(0, 27);
        due("none", x.needed(), NONE);
        x = of("h2,5,20,3;n30;");
        due("no takes", x.needed(), 0);
        x = of("h0,40,20,3;n30;n30;t0,5;");
        x.load(0);
        due("two rooms", x.needed(), 0);
        x.unload();
        due("the one that is left", x.needed(), 2);
    }

    // promise 30
    private static void fogged() {
        FilmCans x = of("h2,5,20,3;n30;n30;g20;t0,10;t3,12;");
        // the fine one (8 of 10), and one of the two others (96 of 100)
        due("above", x.fogged(2, 0), 96);
        due("below", x.fogged(2, 1), 125);
        due("no fog, above", x.fogged(0, 0), 1);
        due("no fog, below", x.fogged(0, 1), 1);
        due("all fogged, above", x.fogged(10, 0), 0);
        due("all fogged, below", x.fogged(10, 1), 1);
        due("fogged(11, 0)", x.fogged(11, 0), BAD);
        due("fogged(-1, 0)", x.fogged(-1, 0), BAD);
        due("fogged(1, 2)", x.fogged(1, 2), BAD);
        due("fogged(1, -1)", x.fogged(1, -1), BAD);
        x.demand(1, 5, 12);
        due("never, above", x.fogged(3, 0), 0);
        due("never, below", x.fogged(3, 1), 1);
        x = of("h0,40,20,3;n30;");
        due("no takes, all fogged", x.fogged(10, 0), 1);
        due("no takes", x.fogged(3, 1), 1);
        x.load(0);
        x.unload();
        due("no rooms, no takes", x.fogged(3, 0), 1);
        x.ask(0, 1);
        due("no rooms", x.fogged(3, 0), 0);
        x = of("h0,1,20,3;n10;n10;n10;n10;n10;n10;t0,10;");
        due("one of six, above", x.fogged(7, 0), 1000000 - 117649);
        due("one of six, below", x.fogged(7, 1), 1000000);
    }

    // promise 31
    private static void drawn() {
        FilmCans x = of("h2,5,20,3;n60;g70;t0,10;t3,12;");
        // x: 16807, then 16807 * 16807 = 282475249; both odd, so take 1: 1 + 1050 % 60 = 31, 1 + 17654703 % 60 = 4
        due("no times", x.drawn(0, 1, 0), 0);
        due("no times", x.drawn(0, 1, 1), 0);
        due("once", x.drawn(1, 1, 0), 2 + 2);
        due("twice", x.drawn(2, 1, 0), 4 + 4);
        due("always placed", x.drawn(2, 1, 1), 0);
        due("feet as before", x.take(1, 1), 12);
        x.demand(0, 3, 60);
        due("never placed but once", x.drawn(2, 1, 1), 1);
        due("losses of the one", x.drawn(2, 1, 0), 2 + 2 + 2);
        due("drawn(-1, 1, 0)", x.drawn(-1, 1, 0), BAD);
        due("drawn(21, 1, 0)", x.drawn(21, 1, 0), BAD);
        due("drawn(1, 0, 0)", x.drawn(1, 0, 0), BAD);
        due("drawn(1, 1000000, 0)", x.drawn(1, 1000000, 0), BAD);
        due("drawn(1, 1, 2)", x.drawn(1, 1, 2), BAD);
        due("drawn(1, 1, -1)", x.drawn(1, 1, -1), BAD);
        due("last seed, most times", x.drawn(20, 999999, 1) >= 0 ? 1 : 0, 1);
        x = of("h2,5,20,3;n60;");
        due("without open takes", x.drawn(20, 7, 0), 0);
        due("without open takes", x.drawn(20, 7, 1), 0);
        x = of("h2,5,20,3;n60;t4,1;");
        due("not served", x.drawn(20, 7, 1), 20);
    }

    // promise 32
    private static void image() {
        FilmCans x = new FilmCans();
        due("image(0) without a book", x.image(0), STATE);
        due("image(2) without a book", x.image(2), BAD);
        due("image(-1) without a book", x.image(-1), BAD);
        Check.feed(x, LAW + "n50;t0,7;");
        x.book();
        due("image(0)", x.image(0), 1);
        x.load(0);
        due("image(1)", x.image(1), 1);
        due("image(2)", x.image(2), BAD);
        due("acts stay", x.count(5), 1);
        due("undo stays", x.undo(), 0);
    }

    // promise 33
    private static void restore() {
        FilmCans x = of(LAW + "n50;r40;t0,7;t0,8;");
        due("restore(0), none kept", x.restore(0), STATE);
        due("restore(2)", x.restore(2), BAD);
        due("restore(-1)", x.restore(-1), BAD);
        x.load(1);
        x.shoot(0);
        x.unload();
        x.load(0);
        x.shoot(1);
        x.image(1);
        x.again(1);
        x.unload();
        x.lab();
        x.law(0, 9);
        x.buy(1, 1);
        x.ask(0, 1);
        x.become(1, 1);
        x.feed(104);
        due("restore(0), none kept", x.restore(0), STATE);
        due("restore(1)", x.restore(1), 1);
        int[] sums = {90, 31, 41, 15, 3, 7, 0, 8};
        for (int what = 0; what < 8; what++) {
            due("restored sums(" + what + ")", x.sums(what), sums[what]);
        }
        int[] counts = {2, 2, 0, 2, 1, 0, 1};
        for (int what = 0; what < 7; what++) {
            due("restored count(" + what + ")", x.count(what), counts[what]);
        }
        due("restored kind", x.can(1, 0), 4);
        due("restored lead", x.can(0, 5), 1);
        due("restored take", x.take(1, 2), 0);
        due("no act", x.undo(), STATE);
        x.unload();
        due("the image is not touched by acts", x.restore(1), 1);
        due("in the camera again", x.can(0, 2), 1);
        x.again(0);
        x.image(1);
        x.again(1);
        x.restore(1);
        due("a later image stands in place", x.count(2), 1);
    }

    // promise 34
    private static void count() {
        FilmCans x = of("h0,40,20,3;n50;r30;n20;t0,7;t0,8;t1,2;");
        x.load(0);
        x.shoot(0);
        x.unload();
        x.load(2);
        x.unload();
        x.load(1);
        x.feed(104);
        x.feed(0);
        int[] want = {3, 3, 2, 2, 1, 6, 2};
        for (int what = 0; what < 7; what++) {
            due("count(" + what + ")", x.count(what), want[what]);
        }
        due("count(-1)", x.count(-1), BAD);
        due("count(7)", x.count(7), BAD);
        due("count(least)", x.count(LEAST), BAD);
    }

    /** No book: STATE stands ahead of BAD where the document says so, and only there. */
    private static void withoutBook() {
        FilmCans x = new FilmCans();
        due("load(0)", x.load(0), BAD);
        due("shoot(0)", x.shoot(0), BAD);
        due("again(0)", x.again(0), BAD);
        due("become(0, 1)", x.become(0, 1), BAD);
        due("demand(0, 0, 1)", x.demand(0, 0, 1), BAD);
        due("can(0, 0)", x.can(0, 0), BAD);
        due("take(0, 0)", x.take(0, 0), BAD);
        due("roll(0, 0)", x.roll(0, 0), BAD);
        due("as(0, 0)", x.as(0, 0), BAD);
        due("fits(0, 0)", x.fits(0, 0), BAD);
        due("planOf(0)", x.planOf(0), BAD);
        due("ruleOf(0, 0)", x.ruleOf(0, 0), BAD);
        due("longer(0)", x.longer(0), BAD);
        due("plan(0)", x.plan(0), STATE);
        due("plan(2)", x.plan(2), STATE);
        due("rule(0, 0)", x.rule(0, 0), STATE);
        due("rule(2, 2)", x.rule(2, 2), STATE);
        due("more(1)", x.more(1), STATE);
        due("more(0)", x.more(0), STATE);
        due("needed()", x.needed(), STATE);
        due("fogged(0, 0)", x.fogged(0, 0), STATE);
        due("fogged(11, 2)", x.fogged(11, 2), STATE);
        due("drawn(0, 1, 0)", x.drawn(0, 1, 0), STATE);
        due("drawn(21, 0, 2)", x.drawn(21, 0, 2), STATE);
        due("sums(8)", x.sums(8), BAD);
        due("batches(1)", x.batches(1), 0);
        due("batches(2)", x.batches(2), BAD);
        due("restore(0)", x.restore(0), STATE);
    }
}
