/** A test for each sentence of the terms of the tape, and of promises 1 to 5. */
public final class BoundariesToldTest extends Sentences {
    private static final String LAW = "h0,1,10,0;";
    private static final String SIX = "n1;f2;g3;r4;s5;n6;";
    private static final String EIGHT = "t0,1;t0,2;t0,3;t0,4;t0,5;t0,6;t0,7;t0,8;";

    public static void main(String[] args) {
        run(BoundariesToldTest.class, "terms", "terms 1", "promise 1", "promise 2", "promise 3", "promise 4", "promise 5");
    }

    // ---- the object

    @Sentence(of = "object", says = "An object is used for at most 512 calls after it has been made")
    static void object_512Calls() {
        FilmCans x = of(LAW + "n9;");
        int calls = LAW.length() + 4;
        for (int i = 0; calls < 512; i++, calls++) {
            due("call " + calls, x.law(2, 10 + (i + 1) % 90), 10 + i % 90);
        }
        FilmCans y = new FilmCans();
        for (int i = 1; i < 512; i++) {
            due("feed, call " + i, y.feed(110), i <= 110 ? i : FULL);
        }
        due("call 512", y.book(), -1000100);
    }

    // ---- terms

    @Sentence(of = "terms", says = "Numbers go from 0 on.")
    static void terms_numbersGoFrom0() {
        FilmCans x = noon();
        due("can 0", x.can(0, 0), 1);
        due("the last can", x.can(4, 0), 5);
        due("one behind", x.can(5, 0), BAD);
        due("one ahead", x.can(-1, 0), BAD);
        due("take 0", x.take(0, 1), 20);
        due("the last take", x.take(5, 1), 12);
        due("one behind", x.take(6, 1), BAD);
        due("roll 0", x.roll(0, 1), 30);
        due("the last roll", x.roll(2, 1), 20);
        due("one behind", x.roll(3, 1), BAD);
        due("the next can", x.buy(1, 1), 5);
        due("the next take", x.ask(1, 1), 6);
    }

    @Sentence(of = "terms", says = "All that is divided is cut towards 0")
    static void terms_cutTowards0() {
        FilmCans x = of("h0,11,10,0;f9;n9;t0,5;");
        due("11 by 2", x.can(0, 7), 5);
        x.law(1, 3);
        due("3 by 2", x.can(0, 7), 1);
        x.law(1, 2);
        due("2 by 2", x.can(0, 7), 1);
        // 1 by 2 is 0, but an end of 0 is not kept
        x.law(1, 1);
        due("1 by 2", x.can(0, 7), 1);
    }

    @Sentence(of = "terms", says = "but fractions, told as two numbers in lowest terms")
    static void terms_lowestTerms() {
        FilmCans x = of("h0,1,10,0;n9;n9;t0,9;");
        due("1 less 4 of 10 times 4 of 10, above", x.fogged(4, 0), 21);
        due("below", x.fogged(4, 1), 25);
        due("1 less 5 of 10 times 5 of 10, above", x.fogged(5, 0), 3);
        due("below", x.fogged(5, 1), 4);
        due("1 less 3 of 10 times 3 of 10, above", x.fogged(3, 0), 91);
        due("below", x.fogged(3, 1), 100);
        due("all, above", x.fogged(0, 0), 1);
        due("all, below", x.fogged(0, 1), 1);
    }

    @Sentence(of = "terms", says = "(0 is 0 by 1)")
    static void terms_0is0by1() {
        FilmCans x = of("h0,1,10,0;n9;n9;t0,10;");
        for (int p = 0; p <= 10; p++) {
            due("fogged(" + p + ", 0)", x.fogged(p, 0), 0);
            due("fogged(" + p + ", 1)", x.fogged(p, 1), 1);
        }
    }

    @Sentence(of = "terms", says = "Sets are bits.")
    static void terms_setsAreBits() {
        FilmCans x = of(LAW + SIX + EIGHT);
        x.load(5);
        x.shoot(2);
        due("take 2", x.can(5, 4), 4);
        x.shoot(0);
        due("takes 0 and 2", x.can(5, 4), 5);
        due("all six cans", x.take(7, 3), 63);
        due("take 7 by itself", x.fits(5, 128), NONE);
        due("takes 1 and 3", x.fits(5, 10), NONE);
        due("take 1", x.fits(5, 2), 0);
    }

    @Sentence(of = "terms", says = "Refusals are answers, the first of these that fits")
    static void terms_theFirstThatFits() {
        bad(Sentences::busy, "load(5), with one in the camera", x -> x.load(5));
        bad(Sentences::noon, "shoot(6), with none in the camera", x -> x.shoot(6));
        bad(Sentences::busy, "become(0, 6), in the camera", x -> x.become(0, 6));
        bad(Sentences::busy, "become(5, 1), with no such can", x -> x.become(5, 1));
        bad(Sentences::busy, "demand(0, 6, 1), shot", x -> x.demand(0, 6, 1));
        bad(Sentences::busy, "demand(0, 0, 61), shot", x -> x.demand(0, 0, 61));
        bad(Sentences::noBook, "image(2), no book", x -> x.image(2));
        bad(Sentences::noBook, "restore(2), none kept", x -> x.restore(2));
        bad(Sentences::sixCans, "buy(0, 1) of six", x -> x.buy(0, 1));
        bad(Sentences::sixCans, "buy(1, 100) of six", x -> x.buy(1, 100));
        bad(Sentences::eightTakes, "ask(6, 1) of eight", x -> x.ask(6, 1));
        bad(Sentences::eightTakes, "ask(0, 0) of eight", x -> x.ask(0, 0));
        state(Sentences::eightWait, "unload() of none, with 8 that wait", FilmCans::unload);
        state(Sentences::eightTakes, "shoot(7), not served and too long", x -> x.shoot(7));
    }

    @Sentence(of = "terms", says = ", but as told")
    static void terms_asTold() {
        state(Sentences::noBook, "buy(0, 0)", x -> x.buy(0, 0));
        state(Sentences::noBook, "ask(6, 0)", x -> x.ask(6, 0));
        state(Sentences::noBook, "law(4, 0)", x -> x.law(4, 0));
        state(Sentences::noBook, "plan(2)", x -> x.plan(2));
        state(Sentences::noBook, "rule(2, 2)", x -> x.rule(2, 2));
        state(Sentences::noBook, "more(0)", x -> x.more(0));
        state(Sentences::noBook, "fogged(11, 2)", x -> x.fogged(11, 2));
        state(Sentences::noBook, "drawn(21, 0, 2)", x -> x.drawn(21, 0, 2));
    }

    @Sentence(of = "terms", says = "BAD (a number is not as told; there is no such thing), STATE (as told), FULL (as told).")
    static void terms_refusalsAreNumbers() {
        due("NONE", FilmCans.NONE, -1000000);
        due("BAD", FilmCans.BAD, -1000001);
        due("STATE", FilmCans.STATE, -1000002);
        due("FULL", FilmCans.FULL, -1000003);
        due("a number that is not as told", busy().law(0, 10), -1000001);
        due("no such thing", busy().can(5, 0), -1000001);
        due("STATE", busy().load(1), -1000002);
        due("FULL", sixCans().buy(1, 1), -1000003);
    }

    @Sentence(of = "terms", says = "What is refused changes nothing.")
    static void terms_refusedChangesNothing() {
        bad(Sentences::busy, "feed(256)", x -> x.feed(256));
        state(Sentences::morning, "undo()", FilmCans::undo);
        state(Sentences::busy, "load(1)", x -> x.load(1));
        state(Sentences::busy, "shoot(3)", x -> x.shoot(3));
        state(Sentences::noon, "unload()", FilmCans::unload);
        state(Sentences::morning, "lab()", FilmCans::lab);
        state(Sentences::busy, "again(1)", x -> x.again(1));
        full(Sentences::sixCans, "buy(1, 1)", x -> x.buy(1, 1));
        full(Sentences::eightTakes, "ask(1, 1)", x -> x.ask(1, 1));
        state(Sentences::busy, "become(4, 1)", x -> x.become(4, 1));
        state(Sentences::busy, "demand(0, 1, 1)", x -> x.demand(0, 1, 1));
        bad(Sentences::busy, "law(1, 0)", x -> x.law(1, 0));
        bad(Sentences::busy, "can(0, 8)", x -> x.can(0, 8));
        bad(Sentences::busy, "take(0, 4)", x -> x.take(0, 4));
        bad(Sentences::busy, "roll(2, 0)", x -> x.roll(2, 0));
        bad(Sentences::busy, "sums(8)", x -> x.sums(8));
        bad(Sentences::busy, "batches(2)", x -> x.batches(2));
        bad(Sentences::busy, "as(0, 6)", x -> x.as(0, 6));
        bad(Sentences::busy, "fits(0, 1)", x -> x.fits(0, 1));
        bad(Sentences::busy, "plan(2)", x -> x.plan(2));
        bad(Sentences::busy, "planOf(5)", x -> x.planOf(5));
        bad(Sentences::busy, "rule(2, 0)", x -> x.rule(2, 0));
        bad(Sentences::busy, "ruleOf(0, 5)", x -> x.ruleOf(0, 5));
        state(Sentences::busy, "longer(0)", x -> x.longer(0));
        bad(Sentences::busy, "more(6)", x -> x.more(6));
        state(Sentences::noBook, "needed()", FilmCans::needed);
        bad(Sentences::busy, "fogged(11, 0)", x -> x.fogged(11, 0));
        bad(Sentences::busy, "drawn(21, 1, 0)", x -> x.drawn(21, 1, 0));
        bad(Sentences::busy, "image(2)", x -> x.image(2));
        bad(Sentences::busy, "restore(2)", x -> x.restore(2));
        bad(Sentences::busy, "count(7)", x -> x.count(7));
    }

    // ---- terms 1

    @Sentence(of = "terms 1", says = "THE TAPE has at most 110 bytes, that come one by one")
    static void terms1_atMost110Bytes() {
        FilmCans x = new FilmCans();
        for (int i = 1; i <= 110; i++) {
            due("byte " + i, x.feed('n'), i);
            due("count(6)", x.count(6), i);
        }
        due("byte 111", x.feed('n'), FULL);
        due("count(6)", x.count(6), 110);
        due("book()", x.book(), -1000100);
        due("room again", x.feed('n'), 1);
    }

    @Sentence(of = "terms 1", says = "TOKENS: letters a to z (each by itself)")
    static void terms1_lettersEachByItself() {
        for (int b = 0; b < 256; b++) {
            if (b != 'h') {
                faulty((char) b + "0,1,10,0;n1;", 0, 1);
            }
            if ("nfgrs".indexOf(b) < 0) {
                faulty(LAW + (char) b + "1;", 10, 1);
            }
            if ("nfgrst".indexOf(b) < 0) {
                faulty(LAW + "n1;" + (char) b + "1;", 13, 1);
            }
        }
        // a letter beside a letter is a token of its own, at its own place
        faulty("hh0,1,10,0;n1;", 1, 1);
        faulty(LAW + "nn1;", 11, 1);
        faulty(LAW + "n1;tt0,1;", 14, 1);
    }

    @Sentence(of = "terms 1", says = "NUMBERS (figures, 2 at most)")
    static void terms1_figures2AtMost() {
        reads("h0,1,10,0;n1;t0,1;", 1, 0);
        reads("h00,01,10,00;n01;t00,01;", 1, 0);
        faulty("h000,1,10,0;n1;", 1, 1);
        faulty("h0,001,10,0;n1;", 3, 1);
        faulty("h0,1,010,0;n1;", 5, 1);
        faulty("h0,1,10,000;n1;", 8, 1);
        faulty("h0,1,10,0;n001;", 11, 1);
        faulty("h0,1,10,0;n1;t000,1;", 14, 1);
        faulty("h0,1,10,0;n1;t0,001;", 16, 1);
        // the signs beside 0 and 9 are no figures
        faulty("h/,1,10,0;n1;", 1, 1);
        faulty("h:,1,10,0;n1;", 1, 1);
        faulty("h0/,1,10,0;n1;", 2, 1);
        faulty("h0:,1,10,0;n1;", 2, 1);
        FilmCans x = of("h09,08,70,06;n45;s32;t01,09;");
        due("LEADER", x.law(0, 0), 9);
        due("KEEP", x.law(1, 1), 8);
        due("BATCH", x.law(2, 10), 70);
        due("FEE", x.law(3, 0), 6);
        due("FEET of can 0", x.can(0, 1), 45);
        due("FEET of can 1", x.can(1, 1), 32);
        due("KIND of the take", x.take(0, 0), 1);
        due("FEET of the take", x.take(0, 1), 9);
    }

    @Sentence(of = "terms 1", says = "SIGNS , and ;")
    static void terms1_signs() {
        for (int b = 0; b < 256; b++) {
            boolean figure = b >= '0' && b <= '9';
            char sign = (char) b;
            if (sign != ',' && !figure) {
                faulty("h0" + sign + "1,10,0;n1;t0,1;", 2, 1);
                faulty("h0,1" + sign + "10,0;n1;t0,1;", 4, 1);
                faulty("h0,1,10" + sign + "0;n1;t0,1;", 7, 1);
                faulty("h0,1,10,0;n1;t0" + sign + "1;", 15, 1);
            }
            if (sign != ';' && !figure) {
                faulty("h0,1,10,0" + sign + "n1;t0,1;", 9, 1);
                faulty("h0,1,10,0;n1" + sign + "t0,1;", 12, 1);
                faulty("h0,1,10,0;n1;t0,1" + sign, 17, 1);
            }
        }
    }

    @Sentence(of = "terms 1", says = "nothing else")
    static void terms1_nothingElse() {
        for (int b : new int[] {0, 9, 10, 13, 32, '-', '+', '.', '_', '`', '{', 'A', 'H', 'N', 'T', 127, 128, 255}) {
            char other = (char) b;
            faulty(other + LAW + "n1;t0,1;", 0, 1);
            faulty("h" + other + "0,1,10,0;n1;", 1, 1);
            faulty("h0," + other + "1,10,0;n1;", 3, 1);
            faulty(LAW + other + "n1;", 10, 1);
            faulty(LAW + "n" + other + "1;", 11, 1);
            faulty(LAW + "n1;" + other, 13, 1);
            faulty(LAW + "n1;t" + other + "0,1;", 14, 1);
            faulty(LAW + "n1;t0,1;" + other, 18, 1);
        }
    }

    @Sentence(of = "terms 1", says = "book: law can { can } { take }.")
    static void terms1_book() {
        reads(LAW + "n1;", 1, 0);
        reads(LAW + "n1;f1;", 2, 0);
        reads(LAW + "n1;t0,1;", 1, 0);
        reads(LAW + "n1;f1;t0,1;t0,1;", 2, 0);
        faulty("", 0, 1);
        faulty("n1;", 0, 1);
        faulty(LAW, 10, 1);
        faulty(LAW + "t0,1;", 10, 1);
        faulty(LAW + LAW + "n1;", 10, 1);
        faulty(LAW + "n1;" + LAW, 13, 1);
        faulty(LAW + "n1;t0,1;n1;", 18, 1);
        faulty(LAW + "n1;t0,1;" + LAW, 18, 1);
    }

    @Sentence(of = "terms 1", says = "law: h LEADER , KEEP , BATCH , FEE ;")
    static void terms1_law() {
        FilmCans x = of("h7,6,55,4;n9;");
        due("LEADER", x.law(0, 0), 7);
        due("KEEP", x.law(1, 1), 6);
        due("BATCH", x.law(2, 10), 55);
        due("FEE", x.law(3, 0), 4);
        faulty("h;n1;", 1, 1);
        faulty("h0;n1;", 2, 1);
        faulty("h0,1;n1;", 4, 1);
        faulty("h0,1,10;n1;", 7, 1);
        faulty("h0,1,10,;n1;", 8, 1);
        faulty("h0,1,10,0,0;n1;", 9, 1);
        faulty("h,1,10,0;n1;", 1, 1);
        faulty("h0,,10,0;n1;", 3, 1);
    }

    @Sentence(of = "terms 1", says = "(0 to 9;")
    static void terms1_leader() {
        reads("h0,1,10,0;n1;", 1, 0);
        reads("h9,1,10,0;n1;", 1, 0);
        faulty("h10,1,10,0;n1;", 1, 2);
        faulty("h99,1,10,0;n1;", 1, 2);
        faulty("h-1,1,10,0;n1;", 1, 1);
    }

    @Sentence(of = "terms 1", says = "1 to 40;")
    static void terms1_keep() {
        reads("h0,1,10,0;n1;", 1, 0);
        reads("h0,40,10,0;n1;", 1, 0);
        faulty("h0,0,10,0;n1;", 3, 2);
        faulty("h0,00,10,0;n1;", 3, 2);
        faulty("h0,41,10,0;n1;", 3, 2);
        faulty("h0,99,10,0;n1;", 3, 2);
    }

    @Sentence(of = "terms 1", says = "10 to 99;")
    static void terms1_batch() {
        reads("h0,1,10,0;n1;", 1, 0);
        reads("h0,1,99,0;n1;", 1, 0);
        faulty("h0,1,9,0;n1;", 5, 2);
        faulty("h0,1,0,0;n1;", 5, 2);
        faulty("h0,1,100,0;n1;", 5, 1);
    }

    @Sentence(of = "terms 1", says = "0 to 20)")
    static void terms1_fee() {
        reads("h0,1,10,0;n1;", 1, 0);
        reads("h0,1,10,20;n1;", 1, 0);
        faulty("h0,1,10,21;n1;", 8, 2);
        faulty("h0,1,10,99;n1;", 8, 2);
        faulty("h0,1,10,100;n1;", 8, 1);
    }

    @Sentence(of = "terms 1", says = "can: SORT FEET ; (n of KIND 1, f 2, g 3, r 4, s 5;")
    static void terms1_sort() {
        FilmCans x = of(LAW + "n11;f12;g13;r14;s15;");
        for (int c = 0; c < 5; c++) {
            due("KIND", x.can(c, 0), c + 1);
            due("FEET", x.can(c, 1), c + 11);
        }
        faulty(LAW + "n;", 11, 1);
        faulty(LAW + "n,", 11, 1);
        faulty(LAW + "n1,", 12, 1);
        faulty(LAW + "n1", 12, 1);
        faulty(LAW + "1;", 10, 1);
    }

    @Sentence(of = "terms 1", says = "1 to 99;")
    static void terms1_canFeet() {
        for (String sort : new String[] {"n", "f", "g", "r", "s"}) {
            reads(LAW + sort + "1;", 1, 0);
            reads(LAW + sort + "99;", 1, 0);
            faulty(LAW + sort + "0;", 11, 2);
            faulty(LAW + sort + "00;", 11, 2);
            faulty(LAW + sort + "100;", 11, 1);
        }
    }

    @Sentence(of = "terms 1", says = "CANS 0 .. 5, 6 at most)")
    static void terms1_sixCans() {
        reads(LAW + SIX, 6, 0);
        FilmCans x = of(LAW + SIX);
        due("can 5", x.can(5, 1), 6);
        due("can 6", x.can(6, 1), BAD);
        faulty(LAW + SIX + "n1;", 28, 3);
    }

    @Sentence(of = "terms 1", says = "take: t KIND , FEET ;")
    static void terms1_take() {
        FilmCans x = of(LAW + "n1;t4,37;");
        due("KIND", x.take(0, 0), 4);
        due("FEET", x.take(0, 1), 37);
        faulty(LAW + "n1;t", 14, 1);
        faulty(LAW + "n1;t;", 14, 1);
        faulty(LAW + "n1;t4;", 15, 1);
        faulty(LAW + "n1;t4,;", 16, 1);
        faulty(LAW + "n1;t4,37,", 18, 1);
        faulty(LAW + "n1;t4,37", 18, 1);
    }

    @Sentence(of = "terms 1", says = "(0 to 5;")
    static void terms1_takeKind() {
        reads(LAW + "n1;t0,1;", 1, 0);
        reads(LAW + "n1;t5,1;", 1, 0);
        faulty(LAW + "n1;t6,1;", 14, 2);
        faulty(LAW + "n1;t99,1;", 14, 2);
        faulty(LAW + "n1;t-1,1;", 14, 1);
    }

    @Sentence(of = "terms 1", says = "1 to 60;")
    static void terms1_takeFeet() {
        reads(LAW + "n1;t0,1;", 1, 0);
        reads(LAW + "n1;t0,60;", 1, 0);
        faulty(LAW + "n1;t0,0;", 16, 2);
        faulty(LAW + "n1;t0,61;", 16, 2);
        faulty(LAW + "n1;t0,99;", 16, 2);
        faulty(LAW + "n1;t0,100;", 16, 1);
    }

    @Sentence(of = "terms 1", says = "TAKES 0 .. 7, 8 at most)")
    static void terms1_eightTakes() {
        reads(LAW + SIX + EIGHT, 6, 0);
        FilmCans x = of(LAW + SIX + EIGHT);
        due("takes", x.count(1), 8);
        due("take 7", x.take(7, 1), 8);
        due("take 8", x.take(8, 1), BAD);
        faulty(LAW + "n1;" + EIGHT + "t0,1;", 53, 3);
        FilmCans y = of(LAW + "n1;");
        due("none", y.count(1), 0);
        due("take 0", y.take(0, 1), BAD);
    }

    @Sentence(of = "terms 1", says = "A BOOK that is read stands in place of the one before")
    static void terms1_inPlaceOfTheOneBefore() {
        String text = "h3,12,40,7;r33;t5,8;";
        sameDay("book()", () -> {
            FilmCans x = busyWithoutTape();
            Check.feed(x, text);
            due("book()", x.book(), 1);
            return x;
        }, () -> of(text));
    }

    @Sentence(of = "terms 1", says = "(none at first)")
    static void terms1_noneAtFirst() {
        state(Sentences::fresh, "plan(0)", x -> x.plan(0));
        state(Sentences::fresh, "image(0)", x -> x.image(0));
        state(Sentences::fresh, "unload()", FilmCans::unload);
        bad(Sentences::fresh, "can(0, 0)", x -> x.can(0, 0));
        due("cans", new FilmCans().count(0), 0);
    }

    @Sentence(of = "terms 1", says = "no ACT can be undone;")
    static void terms1_noActCanBeUndone() {
        FilmCans x = busyWithoutTape();
        due("acts before", x.count(5), 9);
        Check.feed(x, LAW + "n7;");
        due("book()", x.book(), 1);
        due("acts", x.count(5), 0);
        due("undo()", x.undo(), STATE);
        due("the new book stands", x.can(0, 1), 7);
        due("one act", x.law(0, 5), 0);
        due("one can be undone", x.undo(), 0);
        due("not the former ones", x.undo(), STATE);
        due("the new book stands", x.can(0, 1), 7);
    }

    @Sentence(of = "terms 1", says = "IMAGES stay.")
    static void terms1_imagesStay() {
        FilmCans x = busyWithoutTape();
        Check.feed(x, LAW + "n7;");
        x.book();
        due("restore(1)", x.restore(1), 1);
        due("two rolls wait there", x.count(4), 2);
        due("restore(0)", x.restore(0), 1);
        due("none waits there", x.count(4), 0);
        due("five cans", x.count(0), 5);
    }

    @Sentence(of = "terms 1", says = "FAULTS, the first TOKEN that has one (its first byte)")
    static void terms1_firstToken() {
        // a lesser fault behind does not come first
        faulty("h10,0,x", 1, 2);
        faulty("h0,41x", 3, 2);
        faulty(LAW + "n0,", 11, 2);
        faulty(LAW + SIX + "n000,", 28, 3);
        faulty(LAW + "n1;" + EIGHT + "x", 53, 1);
        faulty(LAW + "n1;t6;", 14, 2);
        // its first byte, not its last
        faulty("h0,1,10,21;", 8, 2);
        faulty("h0,1,10,12345;", 8, 1);
        faulty(LAW + "n1;t0,61", 16, 2);
    }

    @Sentence(of = "terms 1", says = "of one TOKEN the least")
    static void terms1_theLeast() {
        // no number of three figures is as told, but it is none
        faulty("h100,1,10,0;n1;", 1, 1);
        faulty(LAW + "n000;", 11, 1);
        // a number that can not stand there, and would not be as told where one can
        faulty("99", 0, 1);
        faulty(LAW + "0;", 10, 1);
        faulty(LAW + "n1;99", 13, 1);
        // a seventh can, but behind a take
        faulty(LAW + SIX + "t0,1;n1;", 33, 1);
        // a ninth take, where its letter can not stand
        faulty(LAW + "n1;" + EIGHT + "tt", 53, 3);
        faulty(LAW + "n1;t0,1;t0,1;t0,1;t0,1;t0,1;t0,1;t0,1;t0,1t", 52, 1);
    }

    @Sentence(of = "terms 1", says = "1 it cannot stand there")
    static void terms1_cannotStandThere() {
        faulty("0", 0, 1);
        faulty(",", 0, 1);
        faulty("t", 0, 1);
        faulty("h,", 1, 1);
        faulty("hn", 1, 1);
        faulty("h0h", 2, 1);
        faulty("h0,;", 3, 1);
        faulty(LAW + "h", 10, 1);
        faulty(LAW + ";", 10, 1);
        faulty(LAW + "n1;a", 13, 1);
        faulty(LAW + "n1;,", 13, 1);
        faulty(LAW + "n1;t0,1;s", 18, 1);
        faulty(LAW + "n1;t0,1;0", 18, 1);
    }

    @Sentence(of = "terms 1", says = ", or is none")
    static void terms1_isNone() {
        faulty(" ", 0, 1);
        faulty("h ", 1, 1);
        faulty("h0 ", 2, 1);
        faulty(LAW + (char) 255, 10, 1);
        faulty(LAW + "n" + (char) 0, 11, 1);
        faulty(LAW + "n1;N1;", 13, 1);
        faulty(LAW + "n1;t0,1;\n", 18, 1);
    }

    @Sentence(of = "terms 1", says = "(a run of three figures or more, at its first;")
    static void terms1_threeFigures() {
        faulty("h001,1,10,0;n1;", 1, 1);
        faulty("h0,0001,10,0;n1;", 3, 1);
        faulty("h0,1,00010,0;n1;", 5, 1);
        faulty("h0,1,10,0;n0000000001;", 11, 1);
        faulty("h0,1,10,0;n123", 11, 1);
        faulty("123", 0, 1);
        StringBuilder figures = new StringBuilder("h");
        while (figures.length() < 110) {
            figures.append('9');
        }
        faulty(figures.toString(), 1, 1);
        // two numbers beside each other are one run
        faulty(LAW + "n1;t0,1;t123,1;", 19, 1);
    }

    @Sentence(of = "terms 1", says = "the end: how many bytes there are)")
    static void terms1_theEnd() {
        String text = "h0,1,10,0;n1;t0,1;";
        for (int length = 0; length < text.length(); length++) {
            String cut = text.substring(0, length);
            if (length == 6) {
                // the end comes behind a number that is not as told yet
                faulty(cut, 5, 2);
            } else if (length != 13) {
                faulty(cut, length, 1);
            }
        }
        reads(text.substring(0, 13), 1, 0);
        reads(text, 1, 0);
    }

    @Sentence(of = "terms 1", says = "2 a NUMBER that is not as told")
    static void terms1_numberNotAsTold() {
        faulty("h10,1,10,0;n1;t0,1;", 1, 2);
        faulty("h0,0,10,0;n1;t0,1;", 3, 2);
        faulty("h0,41,10,0;n1;t0,1;", 3, 2);
        faulty("h0,1,9,0;n1;t0,1;", 5, 2);
        faulty("h0,1,10,21;n1;t0,1;", 8, 2);
        faulty("h0,1,10,0;n0;t0,1;", 11, 2);
        faulty("h0,1,10,0;n1;f0;t0,1;", 14, 2);
        faulty("h0,1,10,0;n1;t6,1;", 14, 2);
        faulty("h0,1,10,0;n1;t0,0;", 16, 2);
        faulty("h0,1,10,0;n1;t0,61;", 16, 2);
        faulty("h0,1,10,0;n1;t0,1;t0,61;", 21, 2);
    }

    @Sentence(of = "terms 1", says = "3 a can, a take more than there is room for (its letter).")
    static void terms1_moreThanRoom() {
        for (String sort : new String[] {"n", "f", "g", "r", "s"}) {
            faulty(LAW + SIX + sort + "1;", 28, 3);
            faulty(LAW + SIX + sort, 28, 3);
        }
        faulty(LAW + SIX + EIGHT + "t0,1;", 68, 3);
        faulty(LAW + "n1;" + EIGHT + "t", 53, 3);
        faulty(LAW + "n1;" + EIGHT + "t99,99;", 53, 3);
    }

    // ---- promise 1

    @Sentence(of = "promise 1", says = "No BOOK.")
    static void promise01_noBook() {
        FilmCans x = new FilmCans();
        for (int what = 0; what < 7; what++) {
            due("count(" + what + ")", x.count(what), 0);
        }
        for (int what = 0; what < 8; what++) {
            due("sums(" + what + ")", x.sums(what), 0);
        }
        due("fault()", x.fault(), 0);
        due("batches(0)", x.batches(0), 0);
        due("batches(1)", x.batches(1), 0);
        bad(Sentences::fresh, "load(0)", y -> y.load(0));
        bad(Sentences::fresh, "shoot(0)", y -> y.shoot(0));
        bad(Sentences::fresh, "again(0)", y -> y.again(0));
        bad(Sentences::fresh, "roll(0, 0)", y -> y.roll(0, 0));
        state(Sentences::fresh, "undo()", FilmCans::undo);
        state(Sentences::fresh, "lab()", FilmCans::lab);
        state(Sentences::fresh, "restore(0)", y -> y.restore(0));
        state(Sentences::fresh, "restore(1)", y -> y.restore(1));
    }

    // ---- promise 2

    @Sentence(of = "promise 2", says = "A byte (0 to 255) comes behind the tape: how many it has.")
    static void promise02_aByteComes() {
        FilmCans x = new FilmCans();
        due("feed(0)", x.feed(0), 1);
        due("feed(255)", x.feed(255), 2);
        due("feed(104)", x.feed(104), 3);
        due("count(6)", x.count(6), 3);
        FilmCans y = of("");
        due("behind a book() of none", y.feed('h'), 1);
        due("behind it", y.feed('1'), 2);
        due("as they came", y.book(), -1000102);
    }

    @Sentence(of = "promise 2", says = "BAD;")
    static void promise02_bad() {
        for (int letter : new int[] {LEAST, -256, -1, 256, 257, 360, MOST}) {
            bad(Sentences::fresh, "feed(" + letter + ")", x -> x.feed(letter));
            bad(Sentences::busy, "feed(" + letter + ")", x -> x.feed(letter));
            bad(BoundariesToldTest::fullTape, "feed(" + letter + ") on a full tape", x -> x.feed(letter));
        }
    }

    private static FilmCans fullTape() {
        FilmCans x = busyWithoutTape();
        for (int i = 0; i < 110; i++) {
            x.feed(i == 0 ? 'h' : '0');
        }
        return x;
    }

    @Sentence(of = "promise 2", says = "FULL.")
    static void promise02_full() {
        for (int letter : new int[] {0, 'h', 255}) {
            full(BoundariesToldTest::fullTape, "feed(" + letter + ")", x -> x.feed(letter));
        }
        FilmCans x = new FilmCans();
        for (int i = 1; i < 110; i++) {
            x.feed('h');
        }
        due("the last that there is room for", x.feed('h'), 110);
        due("one more", x.feed('h'), FULL);
    }

    // ---- promise 3

    @Sentence(of = "promise 3", says = "The tape, empty then, is read: how many CANS there are.")
    static void promise03_isRead() {
        StringBuilder text = new StringBuilder(LAW);
        for (int cans = 1; cans <= 6; cans++) {
            text.append("n").append(cans).append(";");
            FilmCans x = new FilmCans();
            Check.feed(x, text.toString());
            due("book()", x.book(), cans);
            due("CANS", x.count(0), cans);
            due("empty then", x.count(6), 0);
            due("the empty tape", x.book(), -1000100);
            due("the book stands", x.count(0), cans);
        }
    }

    @Sentence(of = "promise 3", says = "-1000100 less the place of a FAULT")
    static void promise03_place() {
        faulty("", 0, 1);
        faulty("x", 0, 1);
        faulty("hx", 1, 1);
        StringBuilder all = new StringBuilder("h09,40,99,20;n99;n99;n99;n99;n99;n99;");
        for (int i = 0; i < 8; i++) {
            all.append("t05,60;");
        }
        // the longest book has 93 bytes
        reads(all.toString(), 6, 0);
        faulty(all + "t", 93, 3);
        faulty(all + "x", 93, 1);
        faulty(all + "01234567890123456", 93, 1);
    }

    @Sentence(of = "promise 3", says = "all but the tape, that is empty then, and what fault() tells stays.")
    static void promise03_staysByAFault() {
        String[] texts = {"", "x", "h10", LAW, LAW + "n0;", LAW + SIX + "n1;", LAW + "n1;t0,1", LAW + "n1;t0,1;x"};
        int[] faults = {1, 1, 2, 1, 2, 3, 1, 1};
        for (int i = 0; i < texts.length; i++) {
            String text = texts[i];
            FilmCans x = busyWithoutTape();
            Check.feed(x, text);
            x.book();
            due("the tape is empty", x.count(6), 0);
            due("fault() of " + text, x.fault(), faults[i]);
            keepsBook(Sentences::busyWithoutTape, Sentences::busyWithoutTape, "book() of " + text, y -> {
                Check.feed(y, text);
                return y.book();
            });
            keepsBook(Sentences::fresh, Sentences::fresh, "book() of " + text, y -> {
                Check.feed(y, text);
                return y.book();
            });
        }
    }

    // ---- promise 4

    @Sentence(of = "promise 4", says = "The number of the latest FAULT")
    static void promise04_theLatest() {
        FilmCans x = of("h10");
        due("2", x.fault(), 2);
        Check.feed(x, LAW + SIX + "n1;");
        x.book();
        due("3", x.fault(), 3);
        x.book();
        due("1", x.fault(), 1);
        Check.feed(x, LAW + SIX + "n1;");
        x.book();
        Check.feed(x, LAW + SIX);
        due("a book without a fault", x.book(), 6);
        due("the latest yet", x.fault(), 3);
        due("asked again", x.fault(), 3);
        x.image(0);
        x.law(0, 9);
        x.undo();
        x.restore(0);
        due("the latest yet", x.fault(), 3);
    }

    @Sentence(of = "promise 4", says = "0 before one.")
    static void promise04_0before() {
        FilmCans x = new FilmCans();
        due("a new object", x.fault(), 0);
        x.feed(300);
        x.feed('x');
        due("bytes on the tape", x.fault(), 0);
        FilmCans y = of(LAW + "n1;");
        due("a book without a fault", y.fault(), 0);
        y.load(7);
        due("refusals are no faults", y.fault(), 0);
    }

    // ---- promise 5

    @Sentence(of = "promise 5", says = "The latest ACT is undone: how many can be undone yet.")
    static void promise05_theLatest() {
        FilmCans x = of(LAW + "n50;t0,5;");
        for (int i = 1; i <= 20; i++) {
            x.law(2, 10 + i);
        }
        for (int i = 19; i >= 0; i--) {
            due("undo()", x.undo(), i);
            due("count(5)", x.count(5), i);
            x.law(2, 99);
            due("as it was before the act", x.undo(), i);
        }
        due("no more", x.undo(), STATE);
        due("BATCH is as the book told", x.law(2, 11), 10);
    }

    @Sentence(of = "promise 5", says = "STATE: none.")
    static void promise05_none() {
        state(Sentences::fresh, "undo()", FilmCans::undo);
        state(Sentences::noBook, "undo()", FilmCans::undo);
        state(Sentences::morning, "undo()", FilmCans::undo);
        state(() -> {
            FilmCans x = busy();
            x.restore(1);
            return x;
        }, "undo() behind restore", FilmCans::undo);
        FilmCans x = morning();
        x.law(0, 5);
        due("the only one", x.undo(), 0);
        due("none then", x.undo(), STATE);
        due("LEADER stays", x.can(0, 5), 2);
    }
}
