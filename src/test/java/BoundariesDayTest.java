/** A test for each sentence of the terms of the day, and of promises 6 to 15. */
public final class BoundariesDayTest extends Sentences {
    private static final String SORTS = "-nfgrs";
    /** Of each kind the kinds that it is. */
    private static final int[] IS = {0b000001, 0b000011, 0b000111, 0b001011, 0b010001, 0b110001};

    public static void main(String[] args) {
        run(BoundariesDayTest.class, "terms 2", "promise 6", "promise 7", "promise 8", "promise 9", "promise 10",
            "promise 11", "promise 12", "promise 13", "promise 14", "promise 15");
    }

    /** One can of a kind, and one take. */
    private static FilmCans one(int leader, int keep, int kind, int feet, int takeFeet) {
        return of("h" + leader + "," + keep + ",20,3;" + SORTS.charAt(kind) + feet + ";t0," + takeFeet + ";");
    }

    /** One roll waits for each number: of a negative can, if it is more than 0, else of a reversal one. */
    private static FilmCans waiting(int batch, int fee, int... feet) {
        FilmCans x = of("h0,1," + batch + "," + fee + ";n99;r99;t0,1;");
        for (int f : feet) {
            x.demand(0, 0, Math.abs(f));
            int can = f > 0 ? 0 : 1;
            if (x.can(can, 1) < Math.abs(f) || x.can(can, 2) != 0) {
                can = x.buy(f > 0 ? 1 : 4, 99);
            }
            x.load(can);
            x.shoot(0);
            x.unload();
            x.again(0);
        }
        return x;
    }

    private static void shootOn(FilmCans x, int can, int take) {
        x.load(can);
        x.shoot(take);
        x.unload();
    }

    private static void evenBooks(FilmCans x) {
        due("shelf, camera, exposed and waste are what was bought", x.sums(1) + x.sums(2) + x.sums(3) + x.sums(4), x.sums(0));
    }

    // ---- terms 2: kinds

    @Sentence(of = "terms 2", says = "KINDS: 0 FILM; 1 NEGATIVE, a FILM; 2 FAST, a NEGATIVE; 3 FINE, a NEGATIVE; 4 REVERSAL, a FILM; 5 STRIP, a REVERSAL.")
    static void terms2_kinds() {
        FilmCans x = of("h0,1,10,0;n1;f1;g1;r1;s1;");
        for (int c = 0; c < 5; c++) {
            for (int kind = 0; kind < 6; kind++) {
                due("as(" + c + ", " + kind + ")", x.as(c, kind), (IS[c + 1] >> kind & 1) == 1 ? c : NONE);
            }
            due("no KIND ahead", x.as(c, -1), BAD);
            due("no KIND behind", x.as(c, 6), BAD);
        }
    }

    @Sentence(of = "terms 2", says = "A CAN is of its KIND and of each that this is, too.")
    static void terms2_ofEachThatThisIs() {
        FilmCans x = of("h0,1,10,0;s1;");
        due("its KIND", x.as(0, 5), 0);
        due("REVERSAL", x.as(0, 4), 0);
        due("FILM", x.as(0, 0), 0);
        due("not NEGATIVE", x.as(0, 1), NONE);
        x.become(0, 4);
        due("a REVERSAL one is no STRIP", x.as(0, 5), NONE);
        x.become(0, 1);
        due("a NEGATIVE one is not FAST", x.as(0, 2), NONE);
        due("nor FINE", x.as(0, 3), NONE);
    }

    @Sentence(of = "terms 2", says = "FAMILIES: 0 of NEGATIVE ones, 1 of REVERSAL ones.")
    static void terms2_families() {
        int[] families = {0, 0, 0, 0, 1, 1};
        for (int kind = 1; kind <= 5; kind++) {
            FilmCans x = one(0, 1, kind, 20, 5);
            x.load(0);
            x.shoot(0);
            x.unload();
            due("FAMILY of a roll of KIND " + kind, x.roll(0, 2), families[kind]);
        }
    }

    @Sentence(of = "terms 2", says = "A CAN SERVES a TAKE, if it is of the KIND that the TAKE tells.")
    static void terms2_serves() {
        for (int kind = 1; kind <= 5; kind++) {
            for (int told = 0; told <= 5; told++) {
                FilmCans x = of("h0,1,20,3;" + SORTS.charAt(kind) + "20;t" + told + ",5;");
                boolean serves = (IS[kind] >> told & 1) == 1;
                String pair = " of KIND " + kind + " for " + told;
                due("take(0, 3)" + pair, x.take(0, 3), serves ? 1 : 0);
                x.load(0);
                due("shoot(0)" + pair, x.shoot(0), serves ? 20 - 5 - (kind == 3 ? 1 : 0) : STATE);
            }
        }
    }

    @Sentence(of = "terms 2", says = "LEAD of a CAN (feet lost as it is threaded): LEADER;")
    static void terms2_lead() {
        for (int leader : new int[] {0, 1, 9}) {
            for (int kind = 1; kind <= 3; kind++) {
                FilmCans x = one(leader, 1, kind, 50, 5);
                due("can(0, 5)", x.can(0, 5), leader);
                due("load(0)", x.load(0), 50 - leader);
            }
        }
    }

    @Sentence(of = "terms 2", says = "of a REVERSAL one twice that.")
    static void terms2_leadOfReversal() {
        for (int leader : new int[] {0, 1, 9}) {
            for (int kind = 4; kind <= 5; kind++) {
                FilmCans x = one(leader, 1, kind, 50, 5);
                due("can(0, 5)", x.can(0, 5), 2 * leader);
                due("load(0)", x.load(0), 50 - 2 * leader);
                due("WASTE", x.sums(4), 2 * leader);
            }
        }
    }

    @Sentence(of = "terms 2", says = "SLATE (feet lost at each TAKE): 0; of a FINE one 1.")
    static void terms2_slate() {
        for (int kind = 1; kind <= 5; kind++) {
            FilmCans x = of("h0,1,20,3;" + SORTS.charAt(kind) + "50;t0,5;t0,6;");
            int slate = kind == 3 ? 1 : 0;
            due("can(0, 6)", x.can(0, 6), slate);
            x.load(0);
            due("shoot(0)", x.shoot(0), 45 - slate);
            due("at each TAKE", x.shoot(1), 39 - 2 * slate);
            due("WASTE", x.sums(4), 2 * slate);
        }
    }

    @Sentence(of = "terms 2", says = "An END of a CAN (feet that are left) is KEPT, if it is 1 or more, and KEEP or more;")
    static void terms2_kept() {
        for (int kind : new int[] {1, 3, 4}) {
            keeps(kind, 10, 10, true);
            keeps(kind, 10, 11, true);
            keeps(kind, 10, 9, false);
            keeps(kind, 1, 1, true);
            keeps(kind, 40, 40, true);
            keeps(kind, 40, 39, false);
            keeps(kind, 1, 0, false);
        }
    }

    @Sentence(of = "terms 2", says = "of a FAST one, if it is 1 or more, and KEEP by 2 or more;")
    static void terms2_keptOfFast() {
        keeps(2, 10, 5, true);
        keeps(2, 10, 4, false);
        keeps(2, 11, 5, true);
        keeps(2, 11, 4, false);
        keeps(2, 40, 20, true);
        keeps(2, 40, 19, false);
        keeps(2, 3, 1, true);
        keeps(2, 2, 1, true);
        keeps(2, 1, 1, true);
        keeps(2, 1, 0, false);
    }

    @Sentence(of = "terms 2", says = "of a STRIP never.")
    static void terms2_keptOfStrip() {
        keeps(5, 1, 1, false);
        keeps(5, 1, 99, false);
        keeps(5, 40, 99, false);
        due("no least END", one(0, 1, 5, 99, 1).can(0, 7), NONE);
    }

    /** A can whose end is so long is unloaded; an end of 0 is what is left behind a take. */
    private static void keeps(int kind, int keep, int end, boolean kept) {
        FilmCans x = end == 0 ? one(0, keep, kind, kind == 3 ? 6 : 5, 5) : one(0, keep, kind, end, 5);
        int slate = end == 0 && kind == 3 ? 1 : 0;
        x.load(0);
        if (end == 0) {
            x.shoot(0);
        }
        String call = "KIND " + kind + ", KEEP " + keep + ", END " + end + ": ";
        due(call + "unload()", x.unload(), kept ? end : 0);
        due(call + "where", x.can(0, 2), kept ? 0 : 2);
        due(call + "FEET", x.can(0, 1), kept ? end : 0);
        due(call + "SHORT", x.can(0, 3), kept ? 1 : 0);
        due(call + "WASTE", x.sums(4), kept ? 0 : end + slate);
        evenBooks(x);
    }

    // ---- terms 2: where cans and takes are

    @Sentence(of = "terms 2", says = "A CAN is on THE SHELF (at first)")
    static void terms2_onTheShelfAtFirst() {
        FilmCans x = of("h9,40,10,0;n1;f1;g1;r1;s1;");
        for (int c = 0; c < 5; c++) {
            due("where", x.can(c, 2), 0);
            due("SHORT", x.can(c, 3), 0);
        }
        due("a can that is bought", x.can(x.buy(2, 5), 2), 0);
    }

    @Sentence(of = "terms 2", says = ", in THE CAMERA (one at most), or SPENT.")
    static void terms2_inTheCameraOneAtMost() {
        FilmCans x = of("h0,40,10,0;n20;n20;");
        x.load(0);
        due("in THE CAMERA", x.can(0, 2), 1);
        due("a second one", x.load(1), STATE);
        due("on THE SHELF", x.can(1, 2), 0);
        x.unload();
        due("SPENT", x.can(0, 2), 2);
        due("THE CAMERA is free", x.load(1), 20);
    }

    @Sentence(of = "terms 2", says = "A TAKE is OPEN (at first), or SHOT on a CAN.")
    static void terms2_openAtFirst() {
        FilmCans x = of("h0,40,10,0;n1;n20;t0,5;");
        due("OPEN", x.take(0, 2), NONE);
        due("one that is asked", x.take(x.ask(0, 1), 2), NONE);
        x.load(1);
        x.shoot(0);
        due("SHOT on", x.take(0, 2), 1);
        due("the other is OPEN", x.take(1, 2), NONE);
    }

    // ---- terms 2: acts

    @Sentence(of = "terms 2", says = "LOADED: a CAN of THE SHELF comes into THE CAMERA; its FEET become less by LEAD, WASTE more by that.")
    static void terms2_loaded() {
        FilmCans x = of("h3,5,10,0;n20;r20;");
        due("load(0)", x.load(0), 17);
        due("where", x.can(0, 2), 1);
        due("FEET", x.can(0, 1), 17);
        due("WASTE", x.sums(4), 3);
        due("camera", x.sums(2), 17);
        due("shelf", x.sums(1), 20);
        x.unload();
        due("threaded again", x.load(0), 14);
        due("WASTE again", x.sums(4), 6);
        x.unload();
        due("a REVERSAL one", x.load(1), 14);
        due("WASTE", x.sums(4), 12);
        evenBooks(x);
    }

    @Sentence(of = "terms 2", says = "SHOT: FEET of the CAN in THE CAMERA become less by those of the TAKE and SLATE;")
    static void terms2_shot() {
        FilmCans x = of("h0,5,10,0;g20;n20;t0,7;");
        x.load(0);
        due("shoot(0)", x.shoot(0), 12);
        due("FEET", x.can(0, 1), 12);
        due("the other can stays", x.can(1, 1), 20);
        due("camera", x.sums(2), 12);
        evenBooks(x);
    }

    @Sentence(of = "terms 2", says = "EXPOSED becomes more by those of the TAKE, WASTE by SLATE;")
    static void terms2_exposed() {
        FilmCans x = of("h2,5,10,0;g60;t0,7;t0,9;");
        x.load(0);
        x.shoot(0);
        due("EXPOSED", x.sums(3), 7);
        due("WASTE", x.sums(4), 3);
        x.shoot(1);
        due("EXPOSED", x.sums(3), 16);
        due("WASTE", x.sums(4), 4);
        evenBooks(x);
    }

    @Sentence(of = "terms 2", says = "the ROLL of THE CAMERA (0 as it is LOADED) more by those of the TAKE.")
    static void terms2_rollOfTheCamera() {
        FilmCans x = of("h0,5,10,0;g60;t0,7;t0,9;");
        due("none is LOADED", x.sums(7), 0);
        x.load(0);
        due("as it is LOADED", x.sums(7), 0);
        x.shoot(0);
        due("without SLATE", x.sums(7), 7);
        x.shoot(1);
        due("both", x.sums(7), 16);
        x.again(0);
        x.shoot(0);
        due("shot twice", x.sums(7), 23);
        x.unload();
        due("none is LOADED", x.sums(7), 0);
        x.load(0);
        due("as it is LOADED again", x.sums(7), 0);
    }

    @Sentence(of = "terms 2", says = "UNLOADED: if that ROLL is more than 0, it WAITS behind the others")
    static void terms2_waitsBehindTheOthers() {
        FilmCans x = of("h0,1,20,0;n60;r60;t0,1;t0,9;");
        x.load(0);
        x.unload();
        due("a ROLL of 0", x.count(4), 0);
        due("is none", x.roll(0, 0), BAD);
        x.load(0);
        x.shoot(0);
        x.unload();
        due("a ROLL of 1", x.count(4), 1);
        x.load(1);
        x.shoot(1);
        x.unload();
        due("behind the others", x.roll(1, 1), 9);
        due("the first", x.roll(0, 1), 1);
        due("both WAIT", x.sums(5), 10);
    }

    @Sentence(of = "terms 2", says = "(its CAN, its feet, the FAMILY of its CAN by now);")
    static void terms2_rollIsOfNow() {
        FilmCans x = of("h0,1,20,0;n60;r60;t0,7;");
        x.load(1);
        x.shoot(0);
        x.unload();
        due("its CAN", x.roll(0, 0), 1);
        due("its feet", x.roll(0, 1), 7);
        due("its FAMILY", x.roll(0, 2), 1);
        x.become(1, 1);
        due("the FAMILY as it was then", x.roll(0, 2), 1);
        x.again(0);
        x.demand(0, 0, 9);
        due("its feet as they were then", x.roll(0, 1), 7);
        x.load(1);
        x.shoot(0);
        x.unload();
        due("the FAMILY by now", x.roll(1, 2), 0);
        due("the same CAN", x.roll(1, 0), 1);
        // 7 and 9 feet of one CAN, but of two FAMILIES, whatever the CAN is by now
        due("BATCHES by LAB", x.batches(0), 2);
        due("FEWEST", x.batches(1), 2);
        due("lab()", x.lab(), 2);
    }

    @Sentence(of = "terms 2", says = "the FAMILY of its CAN by now)")
    static void terms2_familyStaysThatOfTheRoll() {
        FilmCans x = of("h0,1,20,4;n60;r60;t0,7;t0,9;");
        shootOn(x, 0, 0);
        shootOn(x, 1, 1);
        x.become(0, 5);
        due("its CAN is a STRIP by now", x.as(0, 5), 0);
        due("the first ROLL", x.roll(0, 2), 0);
        due("BATCHES by LAB", x.batches(0), 2);
        due("FEWEST", x.batches(1), 2);
        due("lab()", x.lab(), 2);
        due("PAID", x.sums(6), 2 * 4 + 7 + 9);
        FilmCans y = of("h0,1,20,4;n60;r60;t0,7;t0,9;");
        y.become(1, 2);
        shootOn(y, 0, 0);
        shootOn(y, 1, 1);
        y.become(1, 4);
        due("both were NEGATIVE ones: BATCHES by LAB", y.batches(0), 1);
        due("both were NEGATIVE ones: FEWEST", y.batches(1), 1);
        due("both were NEGATIVE ones: lab()", y.lab(), 1);
    }

    @Sentence(of = "terms 2", says = "the END of the CAN: if it is KEPT, the CAN is on THE SHELF again, SHORT from now on;")
    static void terms2_shortFromNowOn() {
        FilmCans x = of("h1,5,20,0;n20;t0,8;");
        x.load(0);
        due("not yet", x.can(0, 3), 0);
        x.shoot(0);
        due("unload()", x.unload(), 11);
        due("on THE SHELF", x.can(0, 2), 0);
        due("FEET", x.can(0, 1), 11);
        due("SHORT", x.can(0, 3), 1);
        x.load(0);
        due("SHORT in THE CAMERA", x.can(0, 3), 1);
        x.law(1, 40);
        x.unload();
        due("SPENT", x.can(0, 2), 2);
        due("SHORT from then on", x.can(0, 3), 1);
        FilmCans y = of("h0,5,20,0;n20;");
        y.load(0);
        y.unload();
        due("SHORT also if nothing was shot", y.can(0, 3), 1);
        due("all its FEET", y.can(0, 1), 20);
    }

    @Sentence(of = "terms 2", says = "else WASTE becomes more by its FEET, these become 0, and it is SPENT.")
    static void terms2_spent() {
        FilmCans x = of("h1,10,20,0;n20;n20;t0,10;");
        x.load(0);
        x.shoot(0);
        due("unload()", x.unload(), 0);
        due("WASTE", x.sums(4), 1 + 9);
        due("FEET", x.can(0, 1), 0);
        due("SPENT", x.can(0, 2), 2);
        due("not SHORT", x.can(0, 3), 0);
        due("shelf", x.sums(1), 20);
        due("camera", x.sums(2), 0);
        due("its ROLL WAITS", x.roll(0, 1), 10);
        due("its TAKE is SHOT", x.take(0, 2), 0);
        evenBooks(x);
    }

    // ---- terms 2: the laboratory

    @Sentence(of = "terms 2", says = "LAB: all ROLLS that WAIT go into BATCHES, one behind the other: each into the first BATCH of its FAMILY")
    static void terms2_lab() {
        due("one behind the other, not by size", waiting(10, 0, 4, 4, 6, 6).lab(), 3);
        due("into the first of two", waiting(10, 0, 6, 6, 4, 4).lab(), 2);
        due("FAMILIES apart", waiting(10, 0, 3, -3, 3, -3).lab(), 2);
        due("FAMILIES apart, though one would hold all", waiting(20, 0, 3, -3, 3, -3).lab(), 2);
        // into the first with room, not into the last, nor into the fullest: 3 + 7, 8 + 2
        due("into the first with room", waiting(10, 0, 3, 8, 7, 2).lab(), 2);
        // into the first though the second would be filled by it: 5 + 2, 8, 5
        due("into the first, not the tightest", waiting(10, 0, 5, 8, 2, 5).lab(), 3);
        due("eight", waiting(10, 0, 10, 10, 10, 10, -10, -10, -10, -10).lab(), 8);
        due("one", waiting(10, 0, 1).lab(), 1);
    }

    @Sentence(of = "terms 2", says = "(of this LAB)")
    static void terms2_ofThisLab() {
        FilmCans x = waiting(20, 7, 5);
        due("lab()", x.lab(), 1);
        x.load(0);
        x.shoot(0);
        x.unload();
        due("a new BATCH", x.lab(), 1);
        due("PAID twice", x.sums(6), 2 * (7 + 5));
    }

    @Sentence(of = "terms 2", says = "in which all feet with it are BATCH or less,")
    static void terms2_batchOrLess() {
        due("just BATCH", waiting(10, 0, 4, 6).lab(), 1);
        due("one more", waiting(10, 0, 5, 6).lab(), 2);
        due("just BATCH of three", waiting(10, 0, 4, 5, 1).lab(), 1);
        due("one more of three", waiting(10, 0, 4, 5, 2).lab(), 2);
        due("the greatest BATCH", waiting(99, 0, 50, 49).lab(), 1);
        due("one more", waiting(99, 0, 50, 50).lab(), 2);
    }

    @Sentence(of = "terms 2", says = "else into a new one (one that is longer than BATCH by itself alone, too);")
    static void terms2_longerThanBatch() {
        due("alone", waiting(10, 0, 11).lab(), 1);
        due("none comes to it", waiting(10, 0, 11, 1).lab(), 2);
        due("it comes to none", waiting(10, 0, 1, 11).lab(), 2);
        due("two of them", waiting(10, 0, 60, 60).lab(), 2);
        due("others go together behind it", waiting(10, 0, 60, 5, 5).lab(), 2);
    }

    @Sentence(of = "terms 2", says = "PAID becomes more by FEE for each BATCH, and 1 for each foot of a ROLL;")
    static void terms2_paid() {
        FilmCans x = waiting(10, 7, 6, -6, 6);
        due("lab()", x.lab(), 3);
        due("PAID", x.sums(6), 3 * 7 + 18);
        x = waiting(10, 0, 6);
        x.lab();
        due("no FEE", x.sums(6), 6);
        x.law(3, 20);
        x.load(0);
        x.shoot(0);
        x.unload();
        x.lab();
        due("FEE of then", x.sums(6), 6 + 20 + 6);
    }

    @Sentence(of = "terms 2", says = "none WAITS then.")
    static void terms2_noneWaits() {
        FilmCans x = eightWait();
        due("eight", x.count(4), 8);
        due("lab()", x.lab(), 1);
        due("none", x.count(4), 0);
        due("no feet", x.sums(5), 0);
        due("no ROLL", x.roll(0, 0), BAD);
        due("lab() again", x.lab(), STATE);
        due("no BATCHES", x.batches(0), 0);
        due("FEWEST", x.batches(1), 0);
    }

    @Sentence(of = "terms 2", says = "FEWEST: into how few BATCHES the ROLLS that WAIT can go: each of one FAMILY,")
    static void terms2_fewest() {
        FilmCans x = waiting(10, 0, 4, 4, 6, 6);
        due("by LAB", x.batches(0), 3);
        due("FEWEST", x.batches(1), 2);
        due("FAMILIES apart", waiting(10, 0, 5, -5).batches(1), 2);
        due("a REVERSAL one first", waiting(10, 0, -5, 5).batches(1), 2);
        due("two of each", waiting(10, 0, -5, 5, 5, -5).batches(1), 2);
        x = waiting(99, 0, 1, -1, 1, -1, 1, -1, 1, -1);
        due("eight of two FAMILIES", x.batches(1), 2);
        x = waiting(10, 0, 2, 2, 5, 3, 3, 7, 5, 3);
        due("eight of one FAMILY", x.batches(1), 3);
        due("by LAB", x.batches(0), 4);
        due("none", waiting(10, 0).batches(1), 0);
    }

    @Sentence(of = "terms 2", says = "of BATCH feet or less together, or of one ROLL alone.")
    static void terms2_fewestAlone() {
        due("just BATCH", waiting(10, 0, 4, 6).batches(1), 1);
        due("one more", waiting(10, 0, 5, 6).batches(1), 2);
        due("longer, alone", waiting(10, 0, 11).batches(1), 1);
        due("longer, with another", waiting(10, 0, 11, 1).batches(1), 2);
        due("two that are longer", waiting(10, 0, 11, 60).batches(1), 2);
    }

    // ---- terms 2: once more, and the sums

    @Sentence(of = "terms 2", says = "ONCE MORE: a TAKE that is SHOT is OPEN again; EXPOSED becomes less by its FEET, WASTE more by them")
    static void terms2_onceMore() {
        FilmCans x = of("h1,5,20,0;g40;t0,8;t0,6;");
        x.load(0);
        x.shoot(0);
        x.shoot(1);
        due("EXPOSED", x.sums(3), 14);
        due("WASTE", x.sums(4), 3);
        x.again(0);
        due("OPEN again", x.take(0, 2), NONE);
        due("EXPOSED less", x.sums(3), 6);
        due("WASTE more, SLATE not twice", x.sums(4), 11);
        due("FEET of the CAN stay", x.can(0, 1), 23);
        due("the other is SHOT", x.take(1, 2), 0);
        evenBooks(x);
        due("it can be SHOT again", x.shoot(0), 14);
        evenBooks(x);
    }

    @Sentence(of = "terms 2", says = "(ROLLS stay as they are, that of THE CAMERA, too).")
    static void terms2_rollsStay() {
        FilmCans x = of("h0,5,20,0;n40;t0,8;t0,6;");
        x.load(0);
        x.shoot(0);
        x.again(0);
        due("the ROLL of THE CAMERA", x.sums(7), 8);
        x.unload();
        due("it WAITS, though no TAKE is SHOT", x.roll(0, 1), 8);
        x.load(0);
        x.shoot(1);
        x.unload();
        x.again(1);
        due("a ROLL that WAITS", x.roll(1, 1), 6);
        due("both", x.count(4), 2);
        due("feet", x.sums(5), 14);
    }

    @Sentence(of = "terms 2", says = "BOUGHT: FEET of all CANS as they came, together.")
    static void terms2_bought() {
        FilmCans x = of("h9,40,10,0;n1;f99;t0,5;");
        due("at first", x.sums(0), 100);
        x.load(1);
        x.shoot(0);
        x.unload();
        due("as they came", x.sums(0), 100);
        x.buy(3, 99);
        x.buy(4, 1);
        due("with those that were bought", x.sums(0), 200);
        x.undo();
        due("undone", x.sums(0), 199);
        evenBooks(x);
        due("the most", of("h9,40,10,0;n99;n99;n99;n99;n99;n99;").sums(0), 594);
    }

    @Sentence(of = "terms 2", says = "EXPOSED, WASTE, PAID are 0 at first.")
    static void terms2_zeroAtFirst() {
        FilmCans x = busyWithoutTape();
        x.lab();
        Check.feed(x, "h1,1,10,1;n5;");
        x.book();
        due("EXPOSED", x.sums(3), 0);
        due("WASTE", x.sums(4), 0);
        due("PAID", x.sums(6), 0);
    }

    @Sentence(of = "terms 2", says = "ACTS (20 at most are kept, of more the oldest is forgotten;")
    static void terms2_twentyActs() {
        for (int many : new int[] {19, 20, 21, 39, 40, 41, 60}) {
            FilmCans x = of("h0,1,10,0;n9;t0,1;");
            for (int i = 1; i <= many; i++) {
                x.demand(0, 0, i);
            }
            int kept = Math.min(many, 20);
            due("kept of " + many, x.count(5), kept);
            for (int i = 1; i <= kept; i++) {
                due("undo() of " + many, x.undo(), kept - i);
                // the book tells 1 foot, and so does the first act
                due("FEET then", x.take(0, 1), Math.max(1, many - i));
            }
            due("the oldest is forgotten", x.undo(), STATE);
            due("FEET stay", x.take(0, 1), Math.max(1, many - kept));
        }
    }

    @Sentence(of = "terms 2", says = "each can be undone, the latest first;")
    static void terms2_latestFirst() {
        FilmCans x = of("h0,1,10,0;n9;t0,1;");
        // forth and back around the ring of twenty
        int feet = 1;
        for (int round = 0; round < 7; round++) {
            for (int i = 0; i < 8; i++) {
                due("demand", x.demand(0, 0, feet + 1), feet);
                feet++;
            }
            for (int i = 0; i < 4; i++) {
                x.undo();
                feet--;
                due("FEET undone", x.take(0, 1), feet);
            }
        }
        // the twenty kept, less the four that were undone last
        for (int i = 15; i >= 0; i--) {
            due("undo()", x.undo(), i);
            feet--;
            due("FEET undone", x.take(0, 1), feet);
        }
        due("no more", x.undo(), STATE);
    }

    @Sentence(of = "terms 2", says = "also such by which nothing becomes another):")
    static void terms2_nothingBecomesAnother() {
        FilmCans x = of("h0,1,10,0;n9;t0,1;");
        due("demand as it was", x.demand(0, 0, 1), 1);
        due("law as it was", x.law(0, 0), 0);
        due("law as it was", x.law(3, 0), 0);
        due("three ACTS", x.count(5), 3);
        due("undo()", x.undo(), 2);
        due("undo()", x.undo(), 1);
        due("undo()", x.undo(), 0);
        due("undo()", x.undo(), STATE);
    }

    /** The call is one act more, and undone, all is as it was. */
    private static void isAnAct(java.util.function.Supplier<FilmCans> scene, String call,
            java.util.function.ToLongFunction<FilmCans> f) {
        FilmCans x = scene.get();
        int before = x.count(5);
        f.applyAsLong(x);
        due(call + " is an ACT", x.count(5), before + 1);
        due(call + " is undone", x.undo(), before);
        keepsAll(scene, call + " and undo()", y -> {
            f.applyAsLong(y);
            return y.undo();
        }, before);
    }

    @Sentence(of = "terms 2", says = "a CAN is LOADED, UNLOADED;")
    static void terms2_actsLoadUnload() {
        isAnAct(Sentences::noon, "load(2)", x -> x.load(2));
        isAnAct(Sentences::noon, "load(1)", x -> x.load(1));
        isAnAct(Sentences::busy, "unload()", FilmCans::unload);
        isAnAct(() -> {
            FilmCans x = busy();
            x.law(1, 40);
            return x;
        }, "unload(), not KEPT", FilmCans::unload);
    }

    @Sentence(of = "terms 2", says = "a TAKE is SHOT, is to be shot ONCE MORE;")
    static void terms2_actsShootAgain() {
        isAnAct(Sentences::busy, "shoot(1)", x -> x.shoot(1));
        isAnAct(Sentences::busy, "again(0)", x -> x.again(0));
        isAnAct(Sentences::busy, "again(4)", x -> x.again(4));
    }

    @Sentence(of = "terms 2", says = "a LAB;")
    static void terms2_actsLab() {
        isAnAct(Sentences::busy, "lab()", FilmCans::lab);
        isAnAct(Sentences::noon, "lab()", FilmCans::lab);
    }

    @Sentence(of = "terms 2", says = "a CAN, a TAKE more;")
    static void terms2_actsBuyAsk() {
        isAnAct(Sentences::busy, "buy(5, 99)", x -> x.buy(5, 99));
        isAnAct(Sentences::busy, "ask(5, 60)", x -> x.ask(5, 60));
        FilmCans x = sixCans();
        x.undo();
        due("there is room again", x.buy(1, 3), 5);
        due("FEET of the new one", x.can(5, 1), 3);
        FilmCans y = eightTakes();
        y.undo();
        due("there is room again", y.ask(1, 3), 7);
        due("FEET of the new one", y.take(7, 1), 3);
        due("OPEN", y.take(7, 2), NONE);
    }

    @Sentence(of = "terms 2", says = "a CAN is of another KIND;")
    static void terms2_actsBecome() {
        for (int kind : new int[] {1, 3, 4, 5}) {
            isAnAct(Sentences::busy, "become(1, " + kind + ")", x -> x.become(1, kind));
        }
    }

    @Sentence(of = "terms 2", says = "a TAKE, a number of the law is told anew (as it was, too).")
    static void terms2_actsDemandLaw() {
        isAnAct(Sentences::busy, "demand(1, 5, 60)", x -> x.demand(1, 5, 60));
        isAnAct(Sentences::busy, "demand(1, 1, 15), as it was", x -> x.demand(1, 1, 15));
        int[] asItWas = {2, 10, 30, 6};
        int[] another = {9, 40, 99, 0};
        for (int i = 0; i < 4; i++) {
            int which = i;
            isAnAct(Sentences::busy, "law(" + i + "), as it was", x -> x.law(which, asItWas[which]));
            isAnAct(Sentences::busy, "law(" + i + ")", x -> x.law(which, another[which]));
        }
    }

    // ---- promise 6

    @Sentence(of = "promise 6", says = "A CAN is LOADED: its FEET then.")
    static void promise06_loaded() {
        FilmCans x = noon();
        due("load(1), SHORT", x.load(1), 24);
        due("where", x.can(1, 2), 1);
        due("a foot for LEAD alone", one(1, 1, 1, 1, 1).load(0), 0);
        due("the most", one(0, 1, 5, 99, 1).load(0), 99);
    }

    @Sentence(of = "promise 6", says = "BAD;")
    static void promise06_bad() {
        for (int can : new int[] {LEAST, NONE, -1, 5, 6, 32, MOST}) {
            bad(Sentences::noon, "load(" + can + ")", x -> x.load(can));
            bad(Sentences::busy, "load(" + can + ")", x -> x.load(can));
        }
        bad(Sentences::sixCans, "load(6)", x -> x.load(6));
        bad(Sentences::noBook, "load(0)", x -> x.load(0));
    }

    @Sentence(of = "promise 6", says = "STATE: THE CAMERA has one,")
    static void promise06_theCameraHasOne() {
        for (int can = 0; can < 5; can++) {
            int c = can;
            state(Sentences::busy, "load(" + can + ")", x -> x.load(c));
        }
        state(() -> {
            FilmCans x = of("h0,1,10,0;n5;n5;t0,5;");
            x.load(0);
            x.shoot(0);
            return x;
        }, "load(1), though nothing is left in THE CAMERA", x -> x.load(1));
    }

    @Sentence(of = "promise 6", says = "or it is not on THE SHELF,")
    static void promise06_notOnTheShelf() {
        state(Sentences::noon, "load(4), SPENT", x -> x.load(4));
        state(Sentences::busy, "load(0), in THE CAMERA", x -> x.load(0));
        // a SPENT one has 0 feet, which are not less than a LEAD of 0
        state(() -> {
            FilmCans x = noon();
            x.law(0, 0);
            return x;
        }, "load(4), SPENT, LEAD 0", x -> x.load(4));
    }

    @Sentence(of = "promise 6", says = "or its FEET are less than LEAD.")
    static void promise06_lessThanLead() {
        for (int kind = 1; kind <= 5; kind++) {
            int lead = kind >= 4 ? 8 : 4;
            int k = kind;
            due("just LEAD, KIND " + kind, one(4, 1, kind, lead, 1).load(0), 0);
            due("one more, KIND " + kind, one(4, 1, kind, lead + 1, 1).load(0), 1);
            state(() -> one(4, 1, k, lead - 1, 1), "one less, KIND " + kind, x -> x.load(0));
        }
    }

    // ---- promise 7

    @Sentence(of = "promise 7", says = "A TAKE is SHOT: FEET of the CAN in THE CAMERA then.")
    static void promise07_shot() {
        FilmCans x = busy();
        due("shoot(1)", x.shoot(1), 38 - 15);
        due("SHOT on", x.take(1, 2), 0);
        due("both", x.can(0, 4), 3);
    }

    @Sentence(of = "promise 7", says = "BAD;")
    static void promise07_bad() {
        for (int take : new int[] {LEAST, NONE, -1, 6, 8, 32, MOST}) {
            bad(Sentences::busy, "shoot(" + take + ")", x -> x.shoot(take));
            bad(Sentences::noon, "shoot(" + take + ")", x -> x.shoot(take));
        }
        bad(Sentences::eightTakes, "shoot(8)", x -> x.shoot(8));
        bad(Sentences::noBook, "shoot(0)", x -> x.shoot(0));
    }

    @Sentence(of = "promise 7", says = "STATE: THE CAMERA has none,")
    static void promise07_theCameraHasNone() {
        for (int take = 0; take < 6; take++) {
            int t = take;
            state(Sentences::noon, "shoot(" + take + ")", x -> x.shoot(t));
            state(Sentences::morning, "shoot(" + take + ")", x -> x.shoot(t));
        }
    }

    @Sentence(of = "promise 7", says = "or the TAKE is SHOT,")
    static void promise07_theTakeIsShot() {
        state(Sentences::busy, "shoot(0), on this CAN", x -> x.shoot(0));
        // take 0 is of FILM, so that any can serves it
        state(() -> {
            FilmCans x = noon();
            x.load(2);
            return x;
        }, "shoot(0), on another CAN", x -> x.shoot(0));
    }

    @Sentence(of = "promise 7", says = "or the CAN does not SERVE it;")
    static void promise07_doesNotServe() {
        state(Sentences::busy, "shoot(2), FINE on NEGATIVE", x -> x.shoot(2));
        state(Sentences::busy, "shoot(3), REVERSAL on NEGATIVE", x -> x.shoot(3));
        state(() -> {
            FilmCans x = noon();
            x.load(3);
            return x;
        }, "shoot(1), NEGATIVE on REVERSAL", x -> x.shoot(1));
    }

    @Sentence(of = "promise 7", says = "FULL: FEET of the CAN are less than those of the TAKE and SLATE.")
    static void promise07_full() {
        for (int kind = 1; kind <= 5; kind++) {
            int k = kind;
            int slate = kind == 3 ? 1 : 0;
            FilmCans just = one(0, 1, kind, 10, 10 - slate);
            just.load(0);
            due("just enough, KIND " + kind, just.shoot(0), 0);
            full(() -> {
                FilmCans x = one(0, 1, k, 10, 11 - slate);
                x.load(0);
                return x;
            }, "one more, KIND " + kind, x -> x.shoot(0));
        }
        full(() -> {
            FilmCans x = busy();
            x.demand(1, 1, 39);
            return x;
        }, "shoot(1), 39 of 38", x -> x.shoot(1));
        FilmCans none = one(4, 1, 1, 4, 1);
        none.load(0);
        due("no foot is left", none.shoot(0), FULL);
    }

    // ---- promise 8

    @Sentence(of = "promise 8", says = "The CAN in THE CAMERA is UNLOADED: its END, if that is KEPT, else 0.")
    static void promise08_unloaded() {
        FilmCans x = busy();
        due("KEPT", x.unload(), 38);
        due("on THE SHELF", x.can(0, 2), 0);
        x = busy();
        x.law(1, 38);
        due("just KEPT", x.unload(), 38);
        x = busy();
        x.law(1, 39);
        due("not KEPT", x.unload(), 0);
        due("SPENT", x.can(0, 2), 2);
        x = one(4, 1, 1, 4, 1);
        x.load(0);
        due("none is left", x.unload(), 0);
    }

    @Sentence(of = "promise 8", says = "STATE: THE CAMERA has none (no BOOK, too);")
    static void promise08_theCameraHasNone() {
        state(Sentences::noon, "unload()", FilmCans::unload);
        state(Sentences::morning, "unload()", FilmCans::unload);
        state(Sentences::noBook, "unload(), no BOOK", FilmCans::unload);
        state(Sentences::fresh, "unload(), no BOOK", FilmCans::unload);
    }

    @Sentence(of = "promise 8", says = "FULL: its ROLL is more than 0, and 8 WAIT.")
    static void promise08_full() {
        full(() -> {
            FilmCans x = eightWait();
            x.load(0);
            x.shoot(0);
            return x;
        }, "a ROLL of 1", FilmCans::unload);
        FilmCans x = eightWait();
        x.load(0);
        due("a ROLL of 0", x.unload(), 52);
        due("8 WAIT", x.count(4), 8);
        due("it is on THE SHELF", x.can(0, 2), 0);
        FilmCans y = eightWait();
        for (int i = 0; i < 4; i++) {
            y.undo();
        }
        due("7 WAIT", y.count(4), 7);
        y.load(0);
        y.shoot(0);
        due("an eighth", y.unload(), 52);
        due("8 WAIT", y.count(4), 8);
    }

    // ---- promise 9

    @Sentence(of = "promise 9", says = "LAB: how many BATCHES.")
    static void promise09_lab() {
        due("two FAMILIES", busy().lab(), 2);
        // 30 of STRIP; 12 of FAST and 20 of NEGATIVE are more than 30
        due("three ROLLS", noon().lab(), 3);
        due("8 ROLLS in one", eightWait().lab(), 1);
    }

    @Sentence(of = "promise 9", says = "STATE: none WAITS.")
    static void promise09_noneWaits() {
        state(Sentences::fresh, "lab(), no BOOK", FilmCans::lab);
        state(Sentences::morning, "lab()", FilmCans::lab);
        state(() -> {
            FilmCans x = busy();
            x.lab();
            return x;
        }, "lab() again, the ROLL of THE CAMERA does not WAIT", FilmCans::lab);
    }

    // ---- promise 10

    @Sentence(of = "promise 10", says = "A TAKE is to be shot ONCE MORE: the CAN on which it was SHOT.")
    static void promise10_again() {
        due("in THE CAMERA", busy().again(0), 0);
        due("on THE SHELF", busy().again(5), 1);
        due("SPENT", busy().again(4), 4);
    }

    @Sentence(of = "promise 10", says = "BAD;")
    static void promise10_bad() {
        for (int take : new int[] {LEAST, NONE, -1, 6, 8, 32, MOST}) {
            bad(Sentences::busy, "again(" + take + ")", x -> x.again(take));
        }
        bad(Sentences::eightTakes, "again(8)", x -> x.again(8));
        bad(Sentences::noBook, "again(0)", x -> x.again(0));
    }

    @Sentence(of = "promise 10", says = "STATE: it is OPEN.")
    static void promise10_open() {
        for (int take : new int[] {1, 2, 3}) {
            state(Sentences::busy, "again(" + take + ")", x -> x.again(take));
        }
        state(() -> {
            FilmCans x = busy();
            x.again(0);
            return x;
        }, "again(0) twice", x -> x.again(0));
    }

    // ---- promise 11

    @Sentence(of = "promise 11", says = "One CAN more of a KIND (1 to 5), of so many FEET (1 to 99), on THE SHELF: its number.")
    static void promise11_buy() {
        for (int kind = 1; kind <= 5; kind++) {
            FilmCans x = busy();
            due("the least", x.buy(kind, 1), 5);
            due("KIND", x.can(5, 0), kind);
            due("FEET", x.can(5, 1), 1);
            due("where", x.can(5, 2), 0);
            due("not SHORT", x.can(5, 3), 0);
            due("no TAKES", x.can(5, 4), 0);
            due("a ROOM more", x.count(3), 5);
            evenBooks(x);
        }
        FilmCans y = of("h0,1,10,0;n1;");
        for (int c = 1; c <= 5; c++) {
            due("the most", y.buy(6 - c, 99), c);
        }
        due("BOUGHT", y.sums(0), 1 + 5 * 99);
        // the place of an undone can that was SHORT, or SPENT, is new again
        FilmCans z = busy();
        z.unload();
        z.buy(1, 50);
        z.load(5);
        z.unload();
        due("SHORT", z.can(5, 3), 1);
        z.undo();
        z.undo();
        z.undo();
        due("bought anew", z.buy(5, 9), 5);
        due("not SHORT", z.can(5, 3), 0);
    }

    @Sentence(of = "promise 11", says = "BAD;")
    static void promise11_bad() {
        for (int kind : new int[] {LEAST, -1, 0, 6, 32, MOST}) {
            bad(Sentences::busy, "buy(" + kind + ", 9)", x -> x.buy(kind, 9));
        }
        for (int feet : new int[] {LEAST, -1, 0, 100, MOST}) {
            bad(Sentences::busy, "buy(1, " + feet + ")", x -> x.buy(1, feet));
        }
    }

    @Sentence(of = "promise 11", says = "STATE: no BOOK (ahead of BAD);")
    static void promise11_noBook() {
        state(Sentences::noBook, "buy(1, 9)", x -> x.buy(1, 9));
        state(Sentences::noBook, "buy(0, 9)", x -> x.buy(0, 9));
        state(Sentences::fresh, "buy(1, 100)", x -> x.buy(1, 100));
    }

    @Sentence(of = "promise 11", says = "FULL: 6.")
    static void promise11_full() {
        due("the sixth", busy().buy(1, 1), 5);
        full(Sentences::sixCans, "the seventh", x -> x.buy(1, 1));
        // SPENT ones count, too
        full(() -> {
            FilmCans x = of("h0,40,10,0;n1;n1;n1;n1;n1;n1;");
            x.load(0);
            x.unload();
            return x;
        }, "the seventh, one SPENT", x -> x.buy(1, 1));
    }

    // ---- promise 12

    @Sentence(of = "promise 12", says = "One TAKE more, OPEN (KIND 0 to 5, FEET 1 to 60): its number.")
    static void promise12_ask() {
        for (int kind = 0; kind <= 5; kind++) {
            FilmCans x = busy();
            due("the least", x.ask(kind, 1), 6);
            due("KIND", x.take(6, 0), kind);
            due("FEET", x.take(6, 1), 1);
            due("OPEN", x.take(6, 2), NONE);
            due("the most", x.ask(kind, 60), 7);
            due("FEET", x.take(7, 1), 60);
            due("OPEN ones", x.count(2), 5);
        }
        FilmCans y = of("h0,1,10,0;n9;");
        due("the first", y.ask(0, 3), 0);
        y.load(0);
        y.shoot(0);
        y.undo();
        y.undo();
        y.undo();
        due("asked anew", y.ask(0, 4), 0);
        due("OPEN", y.take(0, 2), NONE);
    }

    @Sentence(of = "promise 12", says = "BAD;")
    static void promise12_bad() {
        for (int kind : new int[] {LEAST, -1, 6, 32, MOST}) {
            bad(Sentences::busy, "ask(" + kind + ", 9)", x -> x.ask(kind, 9));
        }
        for (int feet : new int[] {LEAST, -1, 0, 61, MOST}) {
            bad(Sentences::busy, "ask(1, " + feet + ")", x -> x.ask(1, feet));
        }
    }

    @Sentence(of = "promise 12", says = "STATE: no BOOK (ahead of BAD);")
    static void promise12_noBook() {
        state(Sentences::noBook, "ask(1, 9)", x -> x.ask(1, 9));
        state(Sentences::noBook, "ask(6, 9)", x -> x.ask(6, 9));
        state(Sentences::fresh, "ask(1, 61)", x -> x.ask(1, 61));
    }

    @Sentence(of = "promise 12", says = "FULL: 8.")
    static void promise12_full() {
        FilmCans x = busy();
        due("the seventh", x.ask(0, 1), 6);
        due("the eighth", x.ask(0, 1), 7);
        due("the ninth", x.ask(0, 1), FULL);
        full(Sentences::eightTakes, "the ninth", y -> y.ask(0, 1));
    }

    // ---- promise 13

    @Sentence(of = "promise 13", says = "A CAN is of another KIND (1 to 5): what it was.")
    static void promise13_become() {
        FilmCans x = of("h2,10,10,0;n9;");
        int was = 1;
        for (int kind : new int[] {5, 4, 3, 2, 1, 3, 5, 1}) {
            due("become(0, " + kind + ")", x.become(0, kind), was);
            due("KIND", x.can(0, 0), kind);
            due("LEAD", x.can(0, 5), kind >= 4 ? 4 : 2);
            was = kind;
        }
        due("a SHORT one", busy().become(1, 5), 2);
        FilmCans y = busy();
        y.become(1, 5);
        due("FEET stay", y.can(1, 1), 26);
        due("SHORT stays", y.can(1, 3), 1);
        due("TAKES on it stay", y.can(1, 4), 32);
    }

    @Sentence(of = "promise 13", says = "BAD;")
    static void promise13_bad() {
        for (int can : new int[] {LEAST, NONE, -1, 5, 6, MOST}) {
            bad(Sentences::busy, "become(" + can + ", 1)", x -> x.become(can, 1));
        }
        for (int kind : new int[] {LEAST, -1, 0, 6, 33, MOST}) {
            bad(Sentences::busy, "become(1, " + kind + ")", x -> x.become(1, kind));
        }
        bad(Sentences::noBook, "become(0, 1)", x -> x.become(0, 1));
    }

    @Sentence(of = "promise 13", says = "STATE: it is that,")
    static void promise13_itIsThat() {
        for (int can = 0; can < 5; can++) {
            int c = can;
            state(Sentences::morning, "become(" + can + ")", x -> x.become(c, c + 1));
        }
    }

    @Sentence(of = "promise 13", says = "or it is not on THE SHELF.")
    static void promise13_notOnTheShelf() {
        for (int kind = 1; kind <= 5; kind++) {
            int k = kind;
            state(Sentences::busy, "in THE CAMERA, " + kind, x -> x.become(0, k));
            state(Sentences::busy, "SPENT, " + kind, x -> x.become(4, k));
        }
    }

    // ---- promise 14

    @Sentence(of = "promise 14", says = "A TAKE has another KIND (0 to 5), FEET (1 to 60): what its FEET were.")
    static void promise14_demand() {
        FilmCans x = busy();
        int were = 15;
        for (int kind = 0; kind <= 5; kind++) {
            int feet = kind % 2 == 0 ? 60 : 1;
            due("demand(1, " + kind + ", " + feet + ")", x.demand(1, kind, feet), were);
            due("KIND", x.take(1, 0), kind);
            due("FEET", x.take(1, 1), feet);
            were = feet;
        }
        due("it is OPEN yet", x.take(1, 2), NONE);
        due("the others stay", x.take(2, 1), 10);
    }

    @Sentence(of = "promise 14", says = "BAD;")
    static void promise14_bad() {
        for (int take : new int[] {LEAST, NONE, -1, 6, 8, MOST}) {
            bad(Sentences::busy, "demand(" + take + ", 0, 1)", x -> x.demand(take, 0, 1));
        }
        for (int kind : new int[] {LEAST, -1, 6, 32, MOST}) {
            bad(Sentences::busy, "demand(1, " + kind + ", 1)", x -> x.demand(1, kind, 1));
        }
        for (int feet : new int[] {LEAST, -1, 0, 61, MOST}) {
            bad(Sentences::busy, "demand(1, 0, " + feet + ")", x -> x.demand(1, 0, feet));
        }
        bad(Sentences::noBook, "demand(0, 0, 1)", x -> x.demand(0, 0, 1));
    }

    @Sentence(of = "promise 14", says = "STATE: it is SHOT.")
    static void promise14_shot() {
        for (int take : new int[] {0, 4, 5}) {
            state(Sentences::busy, "demand(" + take + ", 0, 1)", x -> x.demand(take, 0, 1));
        }
        FilmCans x = busy();
        x.again(4);
        due("OPEN again", x.demand(4, 0, 1), 30);
    }

    // ---- promise 15

    @Sentence(of = "promise 15", says = "LEADER (which = 0), KEEP (1), BATCH (2), FEE (3) is v, as told: what it was.")
    static void promise15_law() {
        int[] least = {0, 1, 10, 0};
        int[] most = {9, 40, 99, 20};
        int[] were = {2, 10, 30, 6};
        for (int which = 0; which < 4; which++) {
            FilmCans x = busy();
            due("the least", x.law(which, least[which]), were[which]);
            due("the most", x.law(which, most[which]), least[which]);
            due("as it was", x.law(which, most[which]), most[which]);
            for (int other = 0; other < 4; other++) {
                if (other != which) {
                    due("the others stay", x.law(other, least[other]), were[other]);
                }
            }
        }
        FilmCans x = busy();
        x.law(0, 9);
        due("LEAD of another", x.can(2, 5), 9);
        due("FEET in THE CAMERA stay", x.can(0, 1), 38);
        due("WASTE stays", x.sums(4), 19);
        x.law(1, 31);
        due("the least END", x.can(2, 7), 31);
        due("a SHORT one is on THE SHELF yet", x.can(1, 2), 0);
    }

    @Sentence(of = "promise 15", says = "BAD;")
    static void promise15_bad() {
        for (int which : new int[] {LEAST, -1, 4, 32, MOST}) {
            bad(Sentences::busy, "law(" + which + ", 10)", x -> x.law(which, 10));
        }
        int[][] wrong = {{LEAST, -1, 10, MOST}, {LEAST, 0, 41, MOST}, {LEAST, 9, 100, MOST}, {LEAST, -1, 21, MOST}};
        for (int i = 0; i < 4; i++) {
            int which = i;
            for (int v : wrong[i]) {
                bad(Sentences::busy, "law(" + i + ", " + v + ")", x -> x.law(which, v));
            }
        }
    }

    @Sentence(of = "promise 15", says = "STATE: no BOOK (ahead of BAD).")
    static void promise15_noBook() {
        state(Sentences::noBook, "law(0, 0)", x -> x.law(0, 0));
        state(Sentences::noBook, "law(4, 0)", x -> x.law(4, 0));
        state(Sentences::fresh, "law(1, 0)", x -> x.law(1, 0));
    }
}
