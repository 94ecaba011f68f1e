/** A test for each sentence of promises 16 to 21. */
public final class BoundariesThereTest extends Sentences {
    private static final int[] WRONG = {LEAST, -1, MOST};

    public static void main(String[] args) {
        run(BoundariesThereTest.class, "promise 16", "promise 17", "promise 18", "promise 19", "promise 20", "promise 21");
    }

    // ---- promise 16

    @Sentence(of = "promise 16", says = "Of a CAN: 0 its KIND, 1 FEET,")
    static void promise16_kindAndFeet() {
        int[] feet = {38, 26, 30, 50, 0};
        for (int can = 0; can < 5; can++) {
            int c = can;
            keepsAll(Sentences::busy, "can(" + can + ", 0)", x -> x.can(c, 0), can + 1);
            keepsAll(Sentences::busy, "can(" + can + ", 1)", x -> x.can(c, 1), feet[can]);
        }
    }

    @Sentence(of = "promise 16", says = "2 where it is (0 THE SHELF, 1 THE CAMERA, 2 SPENT),")
    static void promise16_where() {
        int[] where = {1, 0, 0, 0, 2};
        for (int can = 0; can < 5; can++) {
            int c = can;
            keepsAll(Sentences::busy, "can(" + can + ", 2)", x -> x.can(c, 2), where[can]);
        }
    }

    @Sentence(of = "promise 16", says = "3 whether it is SHORT (1, 0),")
    static void promise16_short() {
        int[] isShort = {0, 1, 0, 0, 0};
        for (int can = 0; can < 5; can++) {
            int c = can;
            keepsAll(Sentences::busy, "can(" + can + ", 3)", x -> x.can(c, 3), isShort[can]);
        }
    }

    @Sentence(of = "promise 16", says = "4 TAKES that are SHOT on it (bits),")
    static void promise16_takesShotOnIt() {
        int[] takes = {1, 32, 0, 0, 16};
        for (int can = 0; can < 5; can++) {
            int c = can;
            keepsAll(Sentences::busy, "can(" + can + ", 4)", x -> x.can(c, 4), takes[can]);
        }
        FilmCans x = of("h0,1,10,0;n99;t0,1;t0,1;t0,1;t0,1;t0,1;t0,1;t0,1;t0,1;");
        x.load(0);
        for (int t = 0; t < 8; t++) {
            x.shoot(t);
        }
        due("all eight", x.can(0, 4), 255);
        x.again(3);
        due("but one that is OPEN again", x.can(0, 4), 247);
    }

    @Sentence(of = "promise 16", says = "5 LEAD, 6 SLATE,")
    static void promise16_leadAndSlate() {
        int[] leads = {2, 2, 2, 4, 4};
        int[] slates = {0, 0, 1, 0, 0};
        for (int can = 0; can < 5; can++) {
            int c = can;
            keepsAll(Sentences::busy, "can(" + can + ", 5)", x -> x.can(c, 5), leads[can]);
            keepsAll(Sentences::busy, "can(" + can + ", 6)", x -> x.can(c, 6), slates[can]);
        }
        FilmCans x = busy();
        x.law(0, 9);
        due("the greatest LEAD", x.can(3, 5), 18);
        x.law(0, 0);
        due("no LEAD", x.can(3, 5), 0);
    }

    @Sentence(of = "promise 16", says = "7 the least END that is KEPT (NONE: none is).")
    static void promise16_leastEnd() {
        int[] ends = {10, 5, 10, 10, NONE};
        for (int can = 0; can < 5; can++) {
            int c = can;
            keepsAll(Sentences::busy, "can(" + can + ", 7)", x -> x.can(c, 7), ends[can]);
        }
        FilmCans x = busy();
        x.law(1, 1);
        due("KEEP 1", x.can(0, 7), 1);
        due("KEEP 1, FAST", x.can(1, 7), 1);
        due("KEEP 1, STRIP", x.can(4, 7), NONE);
        x.law(1, 40);
        due("KEEP 40", x.can(3, 7), 40);
        due("KEEP 40, FAST", x.can(1, 7), 20);
        x.law(1, 39);
        due("KEEP 39, FAST", x.can(1, 7), 19);
    }

    @Sentence(of = "promise 16", says = "BAD.")
    static void promise16_bad() {
        for (int can : new int[] {LEAST, NONE, -1, 5, 6, 32, MOST}) {
            bad(Sentences::busy, "can(" + can + ", 0)", x -> x.can(can, 0));
        }
        for (int what : new int[] {LEAST, -1, 8, 32, MOST}) {
            bad(Sentences::busy, "can(0, " + what + ")", x -> x.can(0, what));
        }
        bad(Sentences::sixCans, "can(6, 0)", x -> x.can(6, 0));
        bad(Sentences::noBook, "can(0, 0)", x -> x.can(0, 0));
    }

    // ---- promise 17

    @Sentence(of = "promise 17", says = "Of a TAKE: 0 its KIND, 1 FEET,")
    static void promise17_kindAndFeet() {
        int[] kinds = {0, 1, 3, 4, 5, 2};
        int[] feet = {20, 15, 10, 25, 30, 12};
        for (int take = 0; take < 6; take++) {
            int t = take;
            keepsAll(Sentences::busy, "take(" + take + ", 0)", x -> x.take(t, 0), kinds[take]);
            keepsAll(Sentences::busy, "take(" + take + ", 1)", x -> x.take(t, 1), feet[take]);
        }
    }

    @Sentence(of = "promise 17", says = "2 the CAN on which it is SHOT (NONE: it is OPEN),")
    static void promise17_shotOn() {
        int[] cans = {0, NONE, NONE, NONE, 4, 1};
        for (int take = 0; take < 6; take++) {
            int t = take;
            keepsAll(Sentences::busy, "take(" + take + ", 2)", x -> x.take(t, 2), cans[take]);
        }
        FilmCans x = busy();
        x.again(0);
        due("OPEN again", x.take(0, 2), NONE);
    }

    @Sentence(of = "promise 17", says = "3 CANS (bits) that SERVE it.")
    static void promise17_cansThatServe() {
        int[] cans = {31, 7, 4, 24, 16, 2};
        for (int take = 0; take < 6; take++) {
            int t = take;
            keepsAll(Sentences::busy, "take(" + take + ", 3)", x -> x.take(t, 3), cans[take]);
        }
        FilmCans x = of("h0,1,10,0;n1;t5,1;");
        due("none", x.take(0, 3), 0);
        due("all six", of("h0,1,10,0;n1;n1;n1;n1;n1;n1;t0,60;").take(0, 3), 63);
    }

    @Sentence(of = "promise 17", says = "BAD.")
    static void promise17_bad() {
        for (int take : new int[] {LEAST, NONE, -1, 6, 8, 32, MOST}) {
            bad(Sentences::busy, "take(" + take + ", 0)", x -> x.take(take, 0));
        }
        for (int what : new int[] {LEAST, -1, 4, 32, MOST}) {
            bad(Sentences::busy, "take(0, " + what + ")", x -> x.take(0, what));
        }
        bad(Sentences::eightTakes, "take(8, 0)", x -> x.take(8, 0));
        bad(Sentences::noBook, "take(0, 0)", x -> x.take(0, 0));
    }

    // ---- promise 18

    @Sentence(of = "promise 18", says = "Of a ROLL that WAITS (0 on, as they came): 0 its CAN, 1 its feet, 2 its FAMILY.")
    static void promise18_roll() {
        int[][] rolls = {{4, 30, 1}, {1, 12, 0}, {0, 20, 0}};
        for (int roll = 0; roll < 3; roll++) {
            for (int what = 0; what < 3; what++) {
                int r = roll;
                int w = what;
                keepsAll(Sentences::noon, "roll(" + roll + ", " + what + ")", x -> x.roll(r, w), rolls[roll][what]);
            }
        }
        FilmCans x = eightWait();
        for (int roll = 0; roll < 8; roll++) {
            due("of eight", x.roll(roll, 1), 1);
        }
    }

    @Sentence(of = "promise 18", says = "BAD.")
    static void promise18_bad() {
        for (int roll : new int[] {LEAST, -1, 3, 8, 32, MOST}) {
            bad(Sentences::noon, "roll(" + roll + ", 0)", x -> x.roll(roll, 0));
        }
        for (int what : new int[] {LEAST, -1, 3, MOST}) {
            bad(Sentences::noon, "roll(0, " + what + ")", x -> x.roll(0, what));
        }
        bad(Sentences::busy, "roll(2, 0), that of THE CAMERA", x -> x.roll(2, 0));
        bad(Sentences::eightWait, "roll(8, 0)", x -> x.roll(8, 0));
        bad(Sentences::morning, "roll(0, 0)", x -> x.roll(0, 0));
        bad(Sentences::noBook, "roll(0, 0)", x -> x.roll(0, 0));
        bad(() -> {
            FilmCans x = noon();
            x.lab();
            return x;
        }, "roll(0, 0) behind LAB", x -> x.roll(0, 0));
    }

    // ---- promise 19

    @Sentence(of = "promise 19", says = "0 BOUGHT, 1 FEET of all CANS on THE SHELF,")
    static void promise19_boughtAndShelf() {
        keepsAll(Sentences::busy, "sums(0)", x -> x.sums(0), 225);
        keepsAll(Sentences::busy, "sums(1)", x -> x.sums(1), 106);
        keepsAll(Sentences::noon, "sums(1)", x -> x.sums(1), 144);
    }

    @Sentence(of = "promise 19", says = "2 FEET of that in THE CAMERA (0: none),")
    static void promise19_camera() {
        keepsAll(Sentences::busy, "sums(2)", x -> x.sums(2), 38);
        keepsAll(Sentences::noon, "sums(2)", x -> x.sums(2), 0);
        keepsAll(Sentences::noBook, "sums(2)", x -> x.sums(2), 0);
    }

    @Sentence(of = "promise 19", says = "3 EXPOSED, 4 WASTE,")
    static void promise19_exposedAndWaste() {
        keepsAll(Sentences::busy, "sums(3)", x -> x.sums(3), 62);
        keepsAll(Sentences::busy, "sums(4)", x -> x.sums(4), 19);
        FilmCans x = busy();
        x.again(0);
        x.again(4);
        x.again(5);
        due("EXPOSED is 0 again", x.sums(3), 0);
        due("WASTE", x.sums(4), 81);
    }

    @Sentence(of = "promise 19", says = "5 feet of all ROLLS that WAIT,")
    static void promise19_waiting() {
        keepsAll(Sentences::busy, "sums(5)", x -> x.sums(5), 42);
        keepsAll(Sentences::noon, "sums(5)", x -> x.sums(5), 62);
        keepsAll(Sentences::eightWait, "sums(5)", x -> x.sums(5), 8);
        keepsAll(Sentences::morning, "sums(5)", x -> x.sums(5), 0);
    }

    @Sentence(of = "promise 19", says = "6 PAID,")
    static void promise19_paid() {
        keepsAll(Sentences::busy, "sums(6)", x -> x.sums(6), 0);
        FilmCans x = busy();
        x.lab();
        due("two BATCHES", x.sums(6), 2 * 6 + 42);
    }

    @Sentence(of = "promise 19", says = "7 the ROLL of THE CAMERA (0: none).")
    static void promise19_rollOfTheCamera() {
        keepsAll(Sentences::busy, "sums(7)", x -> x.sums(7), 20);
        keepsAll(Sentences::noon, "sums(7)", x -> x.sums(7), 0);
        keepsAll(Sentences::noBook, "sums(7)", x -> x.sums(7), 0);
    }

    @Sentence(of = "promise 19", says = "BAD.")
    static void promise19_bad() {
        for (int what : new int[] {LEAST, -1, 8, 32, MOST}) {
            bad(Sentences::busy, "sums(" + what + ")", x -> x.sums(what));
            bad(Sentences::noBook, "sums(" + what + ")", x -> x.sums(what));
        }
    }

    // ---- promise 20

    @Sentence(of = "promise 20", says = "Into how many BATCHES the ROLLS that WAIT would go by LAB (what = 0),")
    static void promise20_byLab() {
        keepsAll(Sentences::busy, "batches(0)", x -> x.batches(0), 2);
        keepsAll(Sentences::noon, "batches(0)", x -> x.batches(0), 3);
        keepsAll(Sentences::eightWait, "batches(0)", x -> x.batches(0), 1);
        keepsAll(Sentences::morning, "batches(0), none", x -> x.batches(0), 0);
        keepsAll(Sentences::noBook, "batches(0), no BOOK", x -> x.batches(0), 0);
        FilmCans x = noon();
        due("as lab() does", x.batches(0), x.lab());
        FilmCans y = eightWait();
        for (int i = 0; i < 5; i++) {
            due("asked again", y.batches(0), 1);
        }
        due("lab() then", y.lab(), 1);
    }

    @Sentence(of = "promise 20", says = "FEWEST (1).")
    static void promise20_fewest() {
        keepsAll(Sentences::busy, "batches(1)", x -> x.batches(1), 2);
        keepsAll(Sentences::noon, "batches(1)", x -> x.batches(1), 3);
        keepsAll(Sentences::eightWait, "batches(1)", x -> x.batches(1), 1);
        keepsAll(Sentences::morning, "batches(1), none", x -> x.batches(1), 0);
        keepsAll(Sentences::noBook, "batches(1), no BOOK", x -> x.batches(1), 0);
        FilmCans x = noon();
        x.law(2, 31);
        due("31 of NEGATIVE are too few for 32", x.batches(1), 3);
        x.law(2, 32);
        due("32 are enough", x.batches(1), 2);
        x.law(2, 31);
        due("asked again", x.batches(1), 3);
    }

    @Sentence(of = "promise 20", says = "BAD.")
    static void promise20_bad() {
        for (int what : new int[] {LEAST, -1, 2, MOST}) {
            bad(Sentences::busy, "batches(" + what + ")", x -> x.batches(what));
            bad(Sentences::noBook, "batches(" + what + ")", x -> x.batches(what));
        }
    }

    // ---- promise 21

    @Sentence(of = "promise 21", says = "A CAN is taken as one of a KIND (0 .. 5): the CAN's number;")
    static void promise21_as() {
        int[][] kinds = {{0, 1}, {0, 1, 2}, {0, 1, 3}, {0, 4}, {0, 4, 5}};
        for (int can = 0; can < 5; can++) {
            int c = can;
            for (int kind : kinds[can]) {
                keepsAll(Sentences::busy, "as(" + can + ", " + kind + ")", x -> x.as(c, kind), can);
            }
        }
        due("can 5", sixCans().as(5, 4), 5);
    }

    @Sentence(of = "promise 21", says = "NONE: it is not of that.")
    static void promise21_none() {
        int[][] kinds = {{2, 3, 4, 5}, {3, 4, 5}, {2, 4, 5}, {1, 2, 3, 5}, {1, 2, 3}};
        for (int can = 0; can < 5; can++) {
            int c = can;
            for (int kind : kinds[can]) {
                keepsAll(Sentences::busy, "as(" + can + ", " + kind + ")", x -> x.as(c, kind), NONE);
            }
        }
    }

    @Sentence(of = "promise 21", says = "BAD.")
    static void promise21_bad() {
        for (int can : new int[] {LEAST, NONE, -1, 5, 6, 32, MOST}) {
            bad(Sentences::busy, "as(" + can + ", 0)", x -> x.as(can, 0));
        }
        for (int kind : new int[] {LEAST, -1, 6, 32, MOST}) {
            bad(Sentences::busy, "as(0, " + kind + ")", x -> x.as(0, kind));
        }
        for (int wrong : WRONG) {
            bad(Sentences::noBook, "as(" + wrong + ", 0)", x -> x.as(wrong, 0));
        }
        bad(Sentences::noBook, "as(0, 0)", x -> x.as(0, 0));
    }
}
