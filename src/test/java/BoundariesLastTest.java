/** The last of what there can be: the sixth can, the eighth take, the eighth roll; each is kept, placed and drawn as the first is. */
public final class BoundariesLastTest extends Sentences {
    public static void main(String[] args) {
        run(BoundariesLastTest.class);
    }

    /** Six cans and eight takes; the eighth take can lie on the sixth can alone. */
    private static FilmCans fullHouse() {
        return of("h1,5,20,3;n50;f50;g50;r50;s50;n60;t0,5;t1,5;t2,5;t3,5;t4,5;t5,5;t0,5;t1,55;");
    }

    private static void haul(FilmCans x, int can, int take) {
        x.load(can);
        x.shoot(take);
        x.unload();
        x.again(take);
    }

    /** Eight rolls wait: the first of 1 foot, the last of 8, of can 0 and can 1 by turns. */
    private static FilmCans eightRolls() {
        FilmCans x = of("h0,1,99,2;n99;r99;t0,1;t0,2;t0,3;t0,4;t0,5;t0,6;t0,7;t0,8;");
        for (int i = 0; i < 8; i++) {
            haul(x, i % 2, i);
        }
        return x;
    }

    private static void hasEightRolls(String when, FilmCans x) {
        due(when + ": ROLLS that WAIT", x.count(4), 8);
        due(when + ": feet", x.sums(5), 1 + 2 + 3 + 4 + 5 + 6 + 7 + 8);
        for (int i = 0; i < 8; i++) {
            due(when + ": CAN of ROLL " + i, x.roll(i, 0), i % 2);
            due(when + ": feet of ROLL " + i, x.roll(i, 1), i + 1);
            due(when + ": FAMILY of ROLL " + i, x.roll(i, 2), i % 2);
        }
    }

    // ---- undone

    @Sentence(of = "promise 5", says = "The latest ACT is undone:")
    static void promise05_theSixthCan() {
        FilmCans x = fullHouse();
        due("load(5)", x.load(5), 59);
        due("undo()", x.undo(), 0);
        due("on THE SHELF", x.can(5, 2), 0);
        due("FEET", x.can(5, 1), 60);
        x.load(5);
        due("unload()", x.unload(), 59);
        due("SHORT", x.can(5, 3), 1);
        due("undo()", x.undo(), 1);
        due("not SHORT", x.can(5, 3), 0);
        due("in THE CAMERA", x.can(5, 2), 1);
        due("undo()", x.undo(), 0);
        due("become(5, 4)", x.become(5, 4), 1);
        due("undo()", x.undo(), 0);
        due("KIND", x.can(5, 0), 1);
        x.load(5);
        x.law(1, 40);
        x.shoot(7);
        due("unload()", x.unload(), 0);
        due("SPENT", x.can(5, 2), 2);
        x.undo();
        due("in THE CAMERA again", x.can(5, 2), 1);
        due("its END again", x.can(5, 1), 4);
        due("count(3)", x.count(3), 6);
    }

    @Sentence(of = "promise 5", says = "The latest ACT is undone:")
    static void promise05_theEighthTake() {
        FilmCans x = fullHouse();
        due("demand(7, 4, 9)", x.demand(7, 4, 9), 55);
        due("undo()", x.undo(), 0);
        due("KIND", x.take(7, 0), 1);
        due("FEET", x.take(7, 1), 55);
        x.load(5);
        due("shoot(7)", x.shoot(7), 4);
        due("SHOT on CAN 5", x.take(7, 2), 5);
        due("on CAN 5 (bits)", x.can(5, 4), 128);
        due("again(7)", x.again(7), 5);
        due("undo()", x.undo(), 2);
        due("SHOT again", x.take(7, 2), 5);
        due("undo()", x.undo(), 1);
        due("OPEN", x.take(7, 2), NONE);
        due("all OPEN", x.count(2), 8);
    }

    @Sentence(of = "promise 5", says = "The latest ACT is undone:")
    static void promise05_eightRolls() {
        FilmCans x = eightRolls();
        x.lab();
        due("none WAITS", x.count(4), 0);
        for (int i = 0; i < 4; i++) {
            haul(x, 1 - i % 2, 7 - i);
        }
        due("other ROLLS", x.roll(0, 1), 8);
        for (int i = 0; i < 17; i++) {
            due("undo()", x.undo(), 19 - i);
        }
        hasEightRolls("LAB is undone", x);
        due("PAID", x.sums(6), 0);
    }

    // ---- images

    @Sentence(of = "promise 33", says = "The BOOK is as an IMAGE kept it")
    static void promise33_eightRolls() {
        for (int k = 0; k < 2; k++) {
            FilmCans x = eightRolls();
            x.image(k);
            x.lab();
            for (int i = 0; i < 8; i++) {
                haul(x, 1 - i % 2, 7 - i);
            }
            due("the last ROLL by then, its CAN", x.roll(7, 0), 0);
            due("the last ROLL by then, its feet", x.roll(7, 1), 1);
            due("restore(" + k + ")", x.restore(k), 1);
            hasEightRolls("restore(" + k + ")", x);
        }
    }

    @Sentence(of = "promise 33", says = "The BOOK is as an IMAGE kept it")
    static void promise33_fullHouse() {
        FilmCans x = fullHouse();
        x.image(0);
        x.load(5);
        x.shoot(7);
        due("unload()", x.unload(), 0);
        x.image(1);
        due("restore(0)", x.restore(0), 1);
        due("on THE SHELF", x.can(5, 2), 0);
        due("OPEN", x.take(7, 2), NONE);
        due("demand(7, 4, 9)", x.demand(7, 4, 9), 55);
        due("become(5, 5)", x.become(5, 5), 1);
        due("load(5)", x.load(5), 58);
        due("restore(1)", x.restore(1), 1);
        due("SHOT on", x.take(7, 2), 5);
        due("its KIND", x.take(7, 0), 1);
        due("its FEET", x.take(7, 1), 55);
        due("SPENT", x.can(5, 2), 2);
        due("KIND of the CAN", x.can(5, 0), 1);
        due("ROOMS", x.count(3), 5);
    }

    // ---- foretold

    @Sentence(of = "terms 3", says = "of several CAN 0 has the least set (bits), then CAN 1, and so on.")
    static void terms3_noTakeLiesOnTwo() {
        // 6, 3 and 4 feet, of 8, 11 and 10: an END would be smaller if a TAKE that is placed lay on a later CAN once more
        FilmCans x = of("h0,40,10,0;s8;s11;n10;t0,6;t0,3;t0,4;");
        due("plan(0)", x.plan(0), 2 + 3);
        due("plan(1)", x.plan(1), 2);
        due("planOf(0)", x.planOf(0), 1);
        due("planOf(1)", x.planOf(1), 0);
        due("planOf(2)", x.planOf(2), 6);
    }

    @Sentence(of = "promise 24", says = "BEST: TAKES (bits) that a CAN has")
    static void promise24_fullHouse() {
        // CAN 5 has 4 feet left behind TAKE 7, so that no other comes there; SLATE and LEAD are the least that is lost
        FilmCans x = fullHouse();
        int together = 0;
        for (int c = 0; c < 6; c++) {
            int set = x.planOf(c);
            due("CAN " + c + " has none that another has", together & set, 0);
            due("CAN " + c + " can have them", x.fits(c, set) == NONE ? 0 : 1, 1);
            together |= set;
        }
        due("all TAKES", together, 255);
        due("planOf(5)", x.planOf(5), 128);
        due("TAKE 2 on the FAST one", x.planOf(1) & 4, 4);
        due("TAKE 3 on the FINE one", x.planOf(2) & 8, 8);
        due("TAKE 5 on the STRIP", x.planOf(4) & 32, 32);
        due("needed()", x.needed(), 1 << 1 | 1 << 2 | 1 << 4 | 1 << 5);
    }

    @Sentence(of = "promise 27", says = "The greatest FEET (1 to 60) that an OPEN TAKE may have, so that all can be PLACED;")
    static void promise27_onEachCan() {
        for (int c = 0; c < 6; c++) {
            StringBuilder text = new StringBuilder("h0,1,10,0;");
            for (int i = 0; i < 6; i++) {
                text.append(i == c ? "n40;" : "n9;");
            }
            due("longer(0), on CAN " + c, of(text + "t0,5;").longer(0), 40);
        }
        due("longer(7), on CAN 5 alone", fullHouse().longer(7), 59);
    }

    @Sentence(of = "terms 3", says = "of the OPEN TAKES the one (rising) that X leaves by how many there are")
    static void terms3_eachOfEight() {
        // X is 16807 times the SEED: 7 times it by 8 leaves 7, 6, 5 and so on
        String eight = "t0,1;t0,2;t0,3;t0,4;t0,5;t0,6;t0,7;t0,8;";
        for (int seed = 1; seed <= 8; seed++) {
            int take = 8 - seed;
            int feet = 1 + 16807 * seed / 16 % 60;
            int all = 36 - (take + 1) + feet;
            String call = "TAKE " + take + " has " + feet + ", SEED " + seed;
            due(call + ": all feet", of("h0,40,20,3;s" + all + ";" + eight).drawn(1, seed, 0), 0);
            due(call + ": one is left", of("h0,40,20,3;s" + (all + 1) + ";" + eight).drawn(1, seed, 0), 1);
            due(call + ": one is wanting", of("h0,40,20,3;s" + (all - 1) + ";" + eight).drawn(1, seed, 1), 1);
        }
    }

    @Sentence(of = "promise 31", says = "LOSSES by the BEST behind each, where all can be PLACED, together (what = 0);")
    static void promise31_theEighthTake() {
        // by SEED 1 TAKE 7 has 31 feet
        FilmCans x = of("h0,40,20,3;n38;t0,1;t0,1;t0,1;t0,1;t0,1;t0,1;t0,1;t0,1;");
        due("31 and 7 of 38", x.drawn(1, 1, 0), 0);
        due("all can be PLACED", x.drawn(1, 1, 1), 0);
        due("as they are: 8 of 38", x.plan(0), 30);
    }
}
