import java.util.ArrayList;
import java.util.List;
import java.util.function.Supplier;

/** A test for each sentence of the terms of what is foretold, and of promises 22 to 34. */
public final class BoundariesForetoldTest extends Sentences {
    public static void main(String[] args) {
        run(BoundariesForetoldTest.class, "terms 3", "promise 22", "promise 23", "promise 24", "promise 25", "promise 26",
            "promise 27", "promise 28", "promise 29", "promise 30", "promise 31", "promise 32", "promise 33", "promise 34");
    }

    private static void plan(String text, int losses, int rooms, int... sets) {
        FilmCans x = of(text);
        due("plan(0) of " + text, x.plan(0), losses);
        due("plan(1) of " + text, x.plan(1), rooms);
        for (int c = 0; c < sets.length; c++) {
            due("planOf(" + c + ") of " + text, x.planOf(c), sets[c]);
        }
    }

    private static void rule(int rule, String text, int losses, int rooms, int... sets) {
        FilmCans x = of(text);
        due("rule(" + rule + ", 0) of " + text, x.rule(rule, 0), losses);
        due("rule(" + rule + ", 1) of " + text, x.rule(rule, 1), rooms);
        for (int c = 0; c < sets.length; c++) {
            due("ruleOf(" + rule + ", " + c + ") of " + text, x.ruleOf(rule, c), sets[c]);
        }
    }

    private static void fog(FilmCans x, int p, long above, long below) {
        due("fogged(" + p + ", 0)", x.fogged(p, 0), above);
        due("fogged(" + p + ", 1)", x.fogged(p, 1), below);
    }

    /** Can 0 is SPENT, can 1 of 50 feet is on the shelf; one take. */
    private static FilmCans oneSpent() {
        FilmCans x = of("h0,40,20,3;n10;n50;t0,20;");
        x.load(0);
        x.unload();
        return x;
    }

    /** Take 1 can be placed nowhere. */
    private static FilmCans hopeless() {
        FilmCans x = busy();
        x.demand(1, 2, 60);
        return x;
    }

    /** No take. */
    private static FilmCans idle() {
        return of("h2,10,20,3;n50;r50;");
    }

    // ---- terms 3: rooms, and the best way

    @Sentence(of = "terms 3", says = "FORETOLD (nothing changes).")
    static void terms3_nothingChanges() {
        keepsAll(Sentences::busy, "fits(0, 2)", x -> x.fits(0, 2), 23);
        keepsAll(Sentences::busy, "plan(0)", x -> x.plan(0), 7);
        keepsAll(Sentences::busy, "planOf(2)", x -> x.planOf(2), 4);
        keepsAll(Sentences::busy, "rule(0, 0)", x -> x.rule(0, 0), 7);
        keepsAll(Sentences::busy, "ruleOf(1, 1)", x -> x.ruleOf(1, 1), 2);
        keepsAll(Sentences::busy, "longer(1)", x -> x.longer(1), 38);
        keepsAll(Sentences::busy, "more(1)", x -> x.more(1), 0);
        keepsAll(BoundariesForetoldTest::hopeless, "more(2)", x -> x.more(2), 62);
        keepsAll(Sentences::busy, "needed()", FilmCans::needed, 12);
        keepsAll(Sentences::busy, "fogged(5, 1)", x -> x.fogged(5, 1), 4);
        keepsAll(Sentences::busy, "drawn(20, 2, 1)", x -> x.drawn(20, 2, 1), busy().drawn(20, 2, 1));
        keepsAll(Sentences::busy, "count(3)", x -> x.count(3), 4);
        // nor does what was asked on the day before, when there were other rooms, other takes, and a way
        sameDay("asked in the morning", () -> {
            FilmCans x = morning();
            foretold(x);
            toNoon(x);
            return x;
        }, () -> {
            FilmCans x = morning();
            toNoon(x);
            return x;
        });
        sameDay("asked when there was a way", () -> {
            FilmCans x = busy();
            foretold(x);
            x.demand(1, 2, 60);
            return x;
        }, BoundariesForetoldTest::hopeless);
        sameDay("asked when there was a way for the last one", () -> {
            FilmCans x = busy();
            foretold(x);
            x.demand(3, 5, 60);
            return x;
        }, () -> {
            FilmCans x = busy();
            x.demand(3, 5, 60);
            return x;
        });
        sameDay("asked of another BOOK", () -> {
            FilmCans x = busyWithoutTape();
            foretold(x);
            Check.feed(x, "h0,1,20,3;n9;t0,9;t0,1;");
            x.book();
            return x;
        }, () -> of("h0,1,20,3;n9;t0,9;t0,1;"));
    }

    /** Can 4, the only STRIP, and can 1, the only FAST one, are spent; take 0 is shot. */
    private static void toNoon(FilmCans x) {
        x.law(1, 40);
        x.load(4);
        x.unload();
        x.load(1);
        x.shoot(5);
        x.shoot(0);
        x.unload();
        x.demand(4, 4, 5);
        x.again(5);
        x.demand(5, 0, 20);
    }

    @Sentence(of = "terms 3", says = "ROOMS are CANS on THE SHELF and the one in THE CAMERA")
    static void terms3_rooms() {
        due("one in THE CAMERA, three on THE SHELF, one SPENT", busy().count(3), 4);
        due("four on THE SHELF, one SPENT", noon().count(3), 4);
        due("five on THE SHELF", morning().count(3), 5);
        FilmCans x = oneSpent();
        due("one SPENT", x.count(3), 1);
        due("no ROOM", x.fits(0, 1), NONE);
        due("a ROOM", x.fits(1, 1), 30);
        x.load(1);
        due("in THE CAMERA", x.fits(1, 1), 30);
        due("one", x.count(3), 1);
        x.law(1, 40);
        x.shoot(0);
        x.unload();
        due("none", x.count(3), 0);
    }

    @Sentence(of = "terms 3", says = "(this one has no LEAD any more).")
    static void terms3_noLeadAnyMore() {
        FilmCans x = of("h3,10,20,3;n50;n50;t0,20;");
        due("LEAD on THE SHELF", x.plan(0), 3);
        due("fits on THE SHELF", x.fits(1, 1), 27);
        x.load(1);
        due("none in THE CAMERA", x.plan(0), 0);
        due("there", x.planOf(1), 1);
        due("fits in THE CAMERA", x.fits(1, 1), 27);
        x.demand(0, 0, 47);
        due("just so many in THE CAMERA", x.fits(1, 1), 0);
        due("LOSS", x.plan(0), 0);
        x.law(0, 9);
        due("another LEADER", x.fits(1, 1), 0);
        due("on THE SHELF not so many", x.fits(0, 1), NONE);
        due("longer in THE CAMERA", x.longer(0), 47);
    }

    @Sentence(of = "terms 3", says = "PLACED: each OPEN TAKE is put on a ROOM that SERVES it,")
    static void terms3_placed() {
        plan("h0,1,20,3;r99;t5,1;", NONE, NONE);
        plan("h0,1,20,3;s99;t5,1;", 98, 1, 1);
        plan("h0,1,20,3;n99;t2,1;t1,1;", NONE, NONE);
        plan("h0,1,20,3;f99;t2,1;t1,1;", 0, 1, 3);
        plan("h0,1,20,3;n99;f99;t2,1;t1,1;", 0, 1, 0, 3);
        plan("h0,1,20,3;f99;n99;t2,1;t1,1;", 0, 1, 3, 0);
        plan("h0,1,20,3;s1;n10;r10;t4,10;t1,10;", 0, 2, 0, 2, 1);
        // a take that is shot is not placed
        FilmCans x = busy();
        due("take 0 on none", (x.planOf(0) | x.planOf(1) | x.planOf(2) | x.planOf(3)), 14);
    }

    @Sentence(of = "terms 3", says = "so that of each ROOM that has any LEAD, their FEET and a SLATE for each come together to no more than its FEET;")
    static void terms3_noMoreThanItsFeet() {
        plan("h2,40,20,3;n20;t0,10;t0,8;", 2, 1, 3);
        plan("h2,40,20,3;n20;t0,10;t0,9;", NONE, NONE);
        plan("h2,40,20,3;g20;t0,10;t0,6;", 4, 1, 3);
        plan("h2,40,20,3;g20;t0,10;t0,7;", NONE, NONE);
        plan("h2,40,20,3;r20;t0,10;t0,6;", 4, 1, 3);
        plan("h2,40,20,3;r20;t0,10;t0,7;", NONE, NONE);
        plan("h9,40,20,3;n9;t0,1;", NONE, NONE);
        plan("h9,40,20,3;n10;t0,1;", 9, 1, 1);
        plan("h9,40,20,3;n8;t0,1;", NONE, NONE);
        // 8 takes on 6 rooms, each just filled
        plan("h0,1,20,3;n10;n10;n10;n10;n20;n20;t0,10;t0,10;t0,10;t0,10;t0,10;t0,10;t0,10;t0,10;", 0, 6, 1, 2, 4, 8, 48, 192);
        plan("h0,1,20,3;n10;n10;n10;n10;n20;n19;t0,10;t0,10;t0,10;t0,10;t0,10;t0,10;t0,10;t0,10;", NONE, NONE);
    }

    @Sentence(of = "terms 3", says = "LOSS of it: LEAD and all SLATES, and its END then, if that is not KEPT")
    static void terms3_loss() {
        plan("h2,5,20,3;g20;t0,6;t0,5;", 4, 1, 3);
        plan("h2,6,20,3;g20;t0,6;t0,5;", 4 + 5, 1, 3);
        plan("h2,10,20,3;f20;t0,13;", 2, 1, 1);
        plan("h2,12,20,3;f20;t0,13;", 2 + 5, 1, 1);
        plan("h2,11,20,3;f20;t0,13;", 2, 1, 1);
        plan("h2,1,20,3;s20;t0,6;", 4 + 10, 1, 1);
        plan("h2,1,20,3;r20;t0,6;", 4, 1, 1);
        plan("h2,1,20,3;r20;t0,16;", 4, 1, 1);
        plan("h0,40,20,3;n99;t0,59;", 0, 1, 1);
        plan("h0,40,20,3;n99;t0,60;", 39, 1, 1);
    }

    @Sentence(of = "terms 3", says = "(0, if it has none).")
    static void terms3_noLossWithoutTakes() {
        plan("h2,38,20,3;s9;n60;t1,20;", 2, 1, 0, 1);
        plan("h2,39,20,3;s9;n60;t1,20;", 2 + 38, 1, 0, 1);
        plan("h9,40,20,3;s9;n30;", 0, 0, 0, 0);
        rule(0, "h9,40,20,3;s9;n30;", 0, 0, 0, 0);
        FilmCans x = of("h2,40,20,3;n30;n50;t0,8;");
        x.load(0);
        due("none for that in THE CAMERA, if it has no TAKE: 40 of 50 are KEPT", x.plan(0), 2);
        due("on CAN 1", x.planOf(1), 1);
    }

    @Sentence(of = "terms 3", says = "Of all ways by which all OPEN TAKES are PLACED the BEST: LOSSES of all ROOMS together are least;")
    static void terms3_best() {
        // together on one, 5 feet are lost; apart, none
        plan("h0,10,20,3;n40;n40;t0,20;t0,15;", 0, 2, 1, 2);
        // one on CAN 1 and one on CAN 2 lose nothing, both on CAN 0 lose 10
        plan("h0,20,20,3;n50;n20;n20;t0,20;t0,20;", 0, 2, 0, 1, 2);
        // two small ones instead of one great: 2 + 2 are less than 2 + 3
        plan("h2,10,20,3;n25;n12;n12;t0,10;t0,10;", 4, 2, 0, 1, 2);
        plan("h2,10,20,3;n22;n12;n12;t0,10;t0,10;", 2, 1, 3, 0, 0);
    }

    @Sentence(of = "terms 3", says = "of several the fewest ROOMS have any;")
    static void terms3_fewestRooms() {
        plan("h0,5,20,3;n40;n40;t0,20;t0,15;", 0, 1, 0, 3);
        plan("h0,1,20,3;n40;n20;n20;t0,20;t0,20;", 0, 1, 3, 0, 0);
        // losses of 4 both ways: LEAD of two, LEAD and an end of 2 of one
        plan("h2,10,20,3;n24;n12;n12;t0,10;t0,10;", 4, 1, 3, 0, 0);
        plan("h2,3,20,3;n24;n12;n12;t0,10;t0,10;", 4, 1, 3, 0, 0);
        // one foot more is lost on one: the two
        plan("h2,10,20,3;n25;n12;n12;t0,10;t0,10;", 4, 2, 0, 1, 2);
    }

    @Sentence(of = "terms 3", says = "of several CAN 0 has the least set (bits), then CAN 1, and so on.")
    static void terms3_leastSet() {
        plan("h0,1,20,3;n40;n40;n40;t0,20;t0,20;t0,20;t0,20;", 0, 2, 0, 3, 12);
        plan("h0,1,20,3;n10;n10;n10;n10;n10;n10;t0,10;t0,10;", 0, 2, 0, 0, 0, 0, 1, 2);
        plan("h0,1,20,3;n10;n10;t0,10;t0,10;", 0, 2, 1, 2);
        // CAN 0 must have two of three: 3 is less than 5 and 6
        plan("h0,1,20,3;n20;n10;t0,10;t0,10;t0,10;", 0, 2, 3, 4);
        // CAN 0 must have one of three: 1
        plan("h0,1,20,3;n10;n20;t0,10;t0,10;t0,10;", 0, 2, 1, 6);
        // two takes that are less as a set than one behind them
        plan("h0,1,20,3;n20;n20;t0,10;t0,10;t0,20;", 0, 2, 3, 4);
        plan("h0,1,20,3;n20;n20;t0,20;t0,10;t0,10;", 0, 2, 1, 6);
    }

    // ---- terms 3: the rules

    @Sentence(of = "terms 3", says = "RULES: OPEN TAKES, rising, are put one by one: 0 each on the first ROOM on which it can be")
    static void terms3_firstRoom() {
        rule(0, "h0,1,20,3;n10;n30;t0,10;t0,10;t0,10;", 0, 2, 1, 6);
        rule(0, "h0,1,20,3;n10;n12;t0,5;t0,10;", 0, 2, 1, 2);
        rule(0, "h0,1,20,3;r99;n99;t1,5;t0,5;", 0, 2, 2, 1);
        rule(0, "h0,1,20,3;n1;n1;n1;n1;n1;n99;t0,2;", 0, 1, 0, 0, 0, 0, 0, 1);
        FilmCans x = oneSpent();
        due("not on one that is SPENT", x.ruleOf(0, 0), 0);
        due("on the first ROOM", x.ruleOf(0, 1), 1);
    }

    @Sentence(of = "terms 3", says = "(by what is there already);")
    static void terms3_whatIsThereAlready() {
        // LEAD once: 2 + 9 + 9 are 20
        rule(0, "h2,1,20,3;n20;n20;t0,9;t0,9;t0,1;", 2 + 2, 2, 3, 4);
        rule(0, "h2,1,20,3;n20;n20;t0,9;t0,10;t0,1;", 2 + 2, 2, 5, 2);
        // a SLATE for each: 9 + 1 + 9 + 1 are 20
        rule(0, "h0,1,20,3;g20;n20;t0,9;t0,9;t0,1;", 2, 2, 3, 4);
        rule(0, "h0,1,20,3;g20;n20;t0,9;t0,10;t0,1;", 2, 2, 5, 2);
    }

    @Sentence(of = "terms 3", says = "1 each on that where, with it (and LEAD, if it is the first there), the fewest feet are left,")
    static void terms3_fewestLeft() {
        rule(1, "h0,1,20,3;n30;n20;n25;t0,10;", 0, 1, 0, 1, 0);
        // twice LEAD on the REVERSAL one: 8 are left there, 9 on the other
        rule(1, "h1,1,20,3;n20;r20;t0,10;", 2, 1, 0, 1);
        // a SLATE on the FINE one
        rule(1, "h1,1,20,3;n20;g20;t0,10;", 2, 1, 0, 1);
        // LEAD only of the first: 19 less 4, 10 and 5 are 0
        rule(1, "h4,1,20,3;n30;n19;t0,10;t0,5;", 4, 1, 0, 3);
        // none left is the fewest
        rule(1, "h0,1,20,3;n99;n60;t0,60;", 0, 1, 0, 1);
        // the most left, on the only one
        rule(1, "h0,1,20,3;n99;t0,1;", 0, 1, 1);
        // it has not so many
        rule(1, "h0,1,20,3;n9;n99;t0,10;", 0, 1, 0, 1);
    }

    @Sentence(of = "terms 3", says = "of several the first.")
    static void terms3_ofSeveralTheFirst() {
        rule(1, "h1,1,20,3;n20;n20;n20;t0,10;", 1, 1, 1, 0, 0);
        rule(1, "h1,1,20,3;n21;r22;n21;t0,10;", 1, 1, 1, 0, 0);
        rule(1, "h1,1,20,3;n30;r22;g22;n21;t0,10;", 2, 1, 0, 1, 0, 0);
    }

    @Sentence(of = "terms 3", says = "As soon as one can be put nowhere, there is NONE.")
    static void terms3_nowhere() {
        // the rule stops, though the others could be put, and though there is a way for all
        rule(0, "h0,1,20,3;n20;n10;t0,10;t0,20;", NONE, NONE, NONE, NONE);
        plan("h0,1,20,3;n20;n10;t0,10;t0,20;", 0, 2, 2, 1);
        rule(1, "h0,1,20,3;n20;n10;t0,10;t0,20;", 0, 2, 2, 1);
        for (int rule = 0; rule < 2; rule++) {
            rule(rule, "h0,1,20,3;n20;n10;t5,1;t0,5;", NONE, NONE, NONE, NONE);
            rule(rule, "h0,1,20,3;n20;n10;t0,5;t5,1;", NONE, NONE, NONE, NONE);
            rule(rule, "h0,1,20,3;n20;t0,20;t0,1;", NONE, NONE, NONE);
        }
        // 12 on the one with 13, then 13 on the one with 20, then 8 nowhere
        rule(1, "h0,1,20,3;n20;n13;t0,12;t0,13;t0,8;", NONE, NONE, NONE, NONE);
        plan("h0,1,20,3;n20;n13;t0,12;t0,13;t0,8;", 0, 2, 5, 2);
    }

    // ---- terms 3: fog and draws

    @Sentence(of = "terms 3", says = "FOGGED by p of 10 (0 to 10): each ROOM is FOGGED in p of 10 cases, apart: how likely all OPEN TAKES can be PLACED on those that are not: a fraction.")
    static void terms3_fogged() {
        FilmCans x = of("h0,1,20,3;n10;t0,10;");
        int[][] one = {{1, 1}, {9, 10}, {4, 5}, {7, 10}, {3, 5}, {1, 2}, {2, 5}, {3, 10}, {1, 5}, {1, 10}, {0, 1}};
        for (int p = 0; p <= 10; p++) {
            fog(x, p, one[p][0], one[p][1]);
        }
        x.load(0);
        fog(x, 3, 7, 10);
        // one of two: 1 less 1 of 10 times 1 of 10
        fog(of("h0,1,20,3;n10;n10;t0,10;"), 1, 99, 100);
        // both of two
        fog(of("h0,1,20,3;n10;n10;t0,10;t0,10;"), 1, 81, 100);
        // one of six, all six
        fog(of("h0,1,20,3;n10;n10;n10;n10;n10;n10;t0,10;"), 9, 468559, 1000000);
        fog(of("h0,1,20,3;n10;n10;n10;n10;n10;n10;t0,10;t0,10;t0,10;t0,10;t0,10;t0,10;"), 9, 1, 1000000);
        fog(of("h0,1,20,3;n10;n10;n10;n10;n10;n10;t0,10;t0,10;t0,10;t0,10;t0,10;t0,10;"), 1, 531441, 1000000);
        // a SPENT one is no ROOM
        fog(oneSpent(), 3, 7, 10);
        // ROOMS that serve nothing change nothing
        fog(of("h0,1,20,3;n10;r10;s10;t1,10;"), 3, 7, 10);
    }

    /** The same told once more: which feet the open takes have, year by year. */
    private static List<int[]> years(int n, long seed, int... feet) {
        List<int[]> years = new ArrayList<>();
        long x = seed;
        for (int i = 0; i < n; i++) {
            x = x * 16807 % 2147483647L;
            feet = feet.clone();
            feet[(int) (x % feet.length)] = 1 + (int) (x / 16 % 60);
            years.add(feet);
        }
        return years;
    }

    @Sentence(of = "terms 3", says = "YEARS of n times (0 to 20) by a SEED (X at first): ahead of each X becomes the rest of (X times 16807) by 2147483647;")
    static void terms3_years() {
        // all that is not shot on the STRIP is lost, so that the losses tell the feet
        FilmCans x = of("h0,1,20,3;s99;t0,1;");
        int[][] first = {{1, 31}, {2, 1}, {67, 60}, {127773, 11}, {127774, 34}, {999999, 15}};
        for (int[] seed : first) {
            due("once, SEED " + seed[0], x.drawn(1, seed[0], 0), 99 - seed[1]);
        }
        // 16807 times 16807 is 282475249: by 16 it is 17654703, that leaves 3 by 60
        due("twice, SEED 1", x.drawn(2, 1, 0), 99 - 31 + 99 - 4);
        for (int seed : new int[] {1, 2, 3, 127773, 127774, 500000, 999999}) {
            int losses = 0;
            List<int[]> years = years(20, seed, 1);
            due("no times", x.drawn(0, seed, 0), 0);
            for (int n = 1; n <= 20; n++) {
                losses += 99 - years.get(n - 1)[0];
                due("drawn(" + n + ", " + seed + ", 0)", x.drawn(n, seed, 0), losses);
            }
        }
    }

    @Sentence(of = "terms 3", says = "of the OPEN TAKES the one (rising) that X leaves by how many there are has from now on")
    static void terms3_theOneThatXLeaves() {
        // takes 0 and 2 are open, each on a STRIP of its own, as each is longer than half of one
        Supplier<FilmCans> scene = () -> {
            FilmCans x = of("h0,40,20,3;s61;n99;t5,40;t1,50;t1,50;");
            x.load(1);
            x.shoot(1);
            return x;
        };
        // the STRIP loses 61 less take 0; the NEGATIVE in the camera has 49, and no end of it is kept
        for (int seed : new int[] {1, 2, 3, 4, 67, 127774, 999999}) {
            FilmCans x = scene.get();
            int losses = 0;
            int failures = 0;
            List<int[]> years = years(20, seed, 40, 50);
            for (int n = 1; n <= 20; n++) {
                int[] feet = years.get(n - 1);
                int left = 49 - feet[1];
                failures += left < 0 ? 1 : 0;
                losses += left < 0 ? 0 : 61 - feet[0] + (left >= 40 ? 0 : left);
                due("drawn(" + n + ", " + seed + ", 0)", x.drawn(n, seed, 0), losses);
                due("drawn(" + n + ", " + seed + ", 1)", x.drawn(n, seed, 1), failures);
            }
        }
        // SEED 2: X is 33614, that leaves 0 by 2; SEED 1: X is 16807, that leaves 1 by 2
        FilmCans y = scene.get();
        due("take 0 has 1 foot, take 2 has no place", y.drawn(1, 2, 1), 1);
        due("take 2 has 31 feet, take 0 has 40", y.drawn(1, 1, 0), 21 + 18);
    }

    @Sentence(of = "terms 3", says = "1 foot and as many as X by 16 (cut) leaves by 60.")
    static void terms3_oneFootAndAsMany() {
        FilmCans x = of("h0,1,20,3;s99;t0,30;");
        due("1 foot, the least: 33614 by 16 is 2100", x.drawn(1, 2, 0), 98);
        due("60 feet, the most: 1126069 by 16 is 70379", x.drawn(1, 67, 0), 39);
        due("cut: 16807 by 16 is 1050 and some", x.drawn(1, 1, 0), 99 - 31);
        FilmCans y = of("h0,1,20,3;s59;t0,30;");
        due("60 feet have no place", y.drawn(1, 67, 1), 1);
        due("1 foot has", y.drawn(1, 2, 1), 0);
    }

    // ---- promise 22

    @Sentence(of = "promise 22", says = "FEET of a CAN that would be left, if all these TAKES (bits; OPEN ones) were put on it, and no other")
    static void promise22_left() {
        int[][] left = {{0, 2, 23}, {1, 2, 9}, {2, 2, 12}, {2, 4, 17}, {2, 6, 1}, {3, 8, 21}};
        for (int[] row : left) {
            keepsAll(Sentences::busy, "fits(" + row[0] + ", " + row[1] + ")", x -> x.fits(row[0], row[1]), row[2]);
        }
        FilmCans x = of("h0,1,10,0;n99;t0,1;t0,2;t0,3;t0,4;t0,5;t0,6;t0,7;t0,8;");
        due("all eight", x.fits(0, 255), 99 - 36);
        due("the last", x.fits(0, 128), 91);
    }

    @Sentence(of = "promise 22", says = "(by none: all its FEET);")
    static void promise22_byNone() {
        int[] feet = {38, 26, 30, 50};
        for (int c = 0; c < 4; c++) {
            int can = c;
            keepsAll(Sentences::busy, "fits(" + c + ", 0)", x -> x.fits(can, 0), feet[c]);
        }
        due("less than LEAD", of("h9,1,10,0;n5;").fits(0, 0), 5);
        due("without TAKES", of("h0,1,10,0;n5;").fits(0, 0), 5);
        FilmCans x = of("h5,1,10,0;n5;");
        x.load(0);
        due("0 in THE CAMERA", x.fits(0, 0), 0);
    }

    @Sentence(of = "promise 22", says = "NONE: it does not SERVE all,")
    static void promise22_doesNotServeAll() {
        int[][] rows = {{0, 4}, {0, 8}, {0, 6}, {0, 10}, {0, 14}, {1, 4}, {2, 8}, {2, 14}, {3, 2}, {3, 10}};
        for (int[] row : rows) {
            keepsAll(Sentences::busy, "fits(" + row[0] + ", " + row[1] + ")", x -> x.fits(row[0], row[1]), NONE);
        }
    }

    @Sentence(of = "promise 22", says = "or has not so many,")
    static void promise22_hasNotSoMany() {
        due("just so many", of("h2,1,10,0;n12;t0,10;").fits(0, 1), 0);
        due("one less", of("h2,1,10,0;n11;t0,10;").fits(0, 1), NONE);
        due("just so many, FINE", of("h2,1,10,0;g13;t0,10;").fits(0, 1), 0);
        due("one less, FINE", of("h2,1,10,0;g12;t0,10;").fits(0, 1), NONE);
        due("just so many, REVERSAL", of("h2,1,10,0;r14;t0,10;").fits(0, 1), 0);
        due("one less, REVERSAL", of("h2,1,10,0;r13;t0,10;").fits(0, 1), NONE);
        due("less than LEAD", of("h9,1,10,0;n5;t0,1;").fits(0, 1), NONE);
        due("two that are too many together", of("h0,1,10,0;n12;t0,10;t0,3;").fits(0, 3), NONE);
        keepsAll(BoundariesForetoldTest::hopeless, "fits(1, 2)", x -> x.fits(1, 2), NONE);
        due("the most", of("h9,1,10,0;r99;t0,60;t0,60;t0,60;t0,60;t0,60;t0,60;t0,60;t0,60;").fits(0, 255), NONE);
    }

    @Sentence(of = "promise 22", says = "or is no ROOM.")
    static void promise22_noRoom() {
        keepsAll(Sentences::busy, "fits(4, 0)", x -> x.fits(4, 0), NONE);
        keepsAll(Sentences::busy, "fits(4, 8), that it would SERVE", x -> x.fits(4, 8), NONE);
        keepsAll(BoundariesForetoldTest::oneSpent, "fits(0, 1)", x -> x.fits(0, 1), NONE);
    }

    @Sentence(of = "promise 22", says = "BAD: CAN;")
    static void promise22_badCan() {
        for (int can : new int[] {LEAST, NONE, -1, 5, 6, MOST}) {
            bad(Sentences::busy, "fits(" + can + ", 0)", x -> x.fits(can, 0));
            bad(Sentences::busy, "fits(" + can + ", 2)", x -> x.fits(can, 2));
        }
        bad(Sentences::noBook, "fits(0, 0)", x -> x.fits(0, 0));
    }

    @Sentence(of = "promise 22", says = "TAKES that there are not,")
    static void promise22_noSuchTakes() {
        for (int set : new int[] {64, 66, 128, 256, 1 << 30, MOST, LEAST, -1}) {
            bad(Sentences::busy, "fits(0, " + set + ")", x -> x.fits(0, set));
        }
        bad(Sentences::busy, "fits(4, 64), SPENT", x -> x.fits(4, 64));
        bad(Sentences::busy, "fits(3, 66), not served", x -> x.fits(3, 66));
        bad(Sentences::eightTakes, "fits(0, 256)", x -> x.fits(0, 256));
        bad(BoundariesForetoldTest::idle, "fits(0, 1)", x -> x.fits(0, 1));
    }

    @Sentence(of = "promise 22", says = "or that are not OPEN.")
    static void promise22_notOpen() {
        for (int set : new int[] {1, 3, 16, 32, 63, 15}) {
            bad(Sentences::busy, "fits(0, " + set + ")", x -> x.fits(0, set));
        }
        bad(Sentences::busy, "fits(4, 16), SPENT", x -> x.fits(4, 16));
    }

    // ---- promise 23

    @Sentence(of = "promise 23", says = "BEST: LOSSES, together (what = 0),")
    static void promise23_losses() {
        due("busy", busy().plan(0), 7);
        due("no TAKES", idle().plan(0), 0);
        due("the most: 6 STRIPS", of("h0,1,10,0;s99;s99;s99;s99;s99;s99;t0,50;t0,50;t0,50;t0,50;t0,50;t0,50;").plan(0), 294);
    }

    @Sentence(of = "promise 23", says = "how many ROOMS have any (1);")
    static void promise23_rooms() {
        due("busy", busy().plan(1), 3);
        due("no TAKES", idle().plan(1), 0);
        due("six", of("h0,1,10,0;s99;s99;s99;s99;s99;s99;t0,50;t0,50;t0,50;t0,50;t0,50;t0,50;").plan(1), 6);
    }

    @Sentence(of = "promise 23", says = "NONE: OPEN TAKES can not be PLACED.")
    static void promise23_none() {
        keepsAll(BoundariesForetoldTest::hopeless, "plan(0)", x -> x.plan(0), NONE);
        keepsAll(BoundariesForetoldTest::hopeless, "plan(1)", x -> x.plan(1), NONE);
        FilmCans x = oneSpent();
        x.demand(0, 0, 50);
        due("50 on 50", x.plan(0), 0);
        x.demand(0, 0, 51);
        due("51 on 50", x.plan(0), NONE);
    }

    @Sentence(of = "promise 23", says = "BAD;")
    static void promise23_bad() {
        for (int what : new int[] {LEAST, -1, 2, MOST}) {
            bad(Sentences::busy, "plan(" + what + ")", x -> x.plan(what));
            bad(BoundariesForetoldTest::hopeless, "plan(" + what + ")", x -> x.plan(what));
        }
    }

    @Sentence(of = "promise 23", says = "STATE: no BOOK (ahead of BAD).")
    static void promise23_noBook() {
        for (int what : new int[] {-1, 0, 1, 2}) {
            state(Sentences::noBook, "plan(" + what + ")", x -> x.plan(what));
        }
    }

    // ---- promise 24

    @Sentence(of = "promise 24", says = "BEST: TAKES (bits) that a CAN has")
    static void promise24_takes() {
        int[] sets = {2, 0, 4, 8};
        for (int c = 0; c < 4; c++) {
            due("planOf(" + c + ")", busy().planOf(c), sets[c]);
        }
        due("all eight", of("h0,1,10,0;n99;t0,1;t0,1;t0,1;t0,1;t0,1;t0,1;t0,1;t0,1;").planOf(0), 255);
        due("no TAKES", idle().planOf(0), 0);
    }

    @Sentence(of = "promise 24", says = "(0, if it is no ROOM);")
    static void promise24_noRoom() {
        keepsAll(Sentences::busy, "planOf(4)", x -> x.planOf(4), 0);
        keepsAll(BoundariesForetoldTest::oneSpent, "planOf(0)", x -> x.planOf(0), 0);
    }

    @Sentence(of = "promise 24", says = "NONE.")
    static void promise24_none() {
        for (int c = 0; c < 4; c++) {
            int can = c;
            keepsAll(BoundariesForetoldTest::hopeless, "planOf(" + c + ")", x -> x.planOf(can), NONE);
        }
    }

    @Sentence(of = "promise 24", says = "BAD.")
    static void promise24_bad() {
        for (int can : new int[] {LEAST, NONE, -1, 5, 6, MOST}) {
            bad(Sentences::busy, "planOf(" + can + ")", x -> x.planOf(can));
            bad(BoundariesForetoldTest::hopeless, "planOf(" + can + ")", x -> x.planOf(can));
        }
        bad(Sentences::sixCans, "planOf(6)", x -> x.planOf(6));
        bad(Sentences::noBook, "planOf(0)", x -> x.planOf(0));
    }

    // ---- promise 25

    @Sentence(of = "promise 25", says = "By a RULE (0, 1): LOSSES, together (what = 0),")
    static void promise25_losses() {
        due("rule(0, 0)", busy().rule(0, 0), 7);
        due("rule(1, 0)", busy().rule(1, 0), 9);
        FilmCans x = busy();
        for (int i = 0; i < 2; i++) {
            due("one behind the other, rule(0, 0)", x.rule(0, 0), 7);
            due("one behind the other, rule(1, 0)", x.rule(1, 0), 9);
            due("one behind the other, plan(0)", x.plan(0), 7);
        }
        due("no TAKES", idle().rule(0, 0), 0);
        due("no TAKES", idle().rule(1, 0), 0);
    }

    @Sentence(of = "promise 25", says = "how many ROOMS have any (1);")
    static void promise25_rooms() {
        due("rule(0, 1)", busy().rule(0, 1), 3);
        due("rule(1, 1)", busy().rule(1, 1), 3);
        due("no TAKES", idle().rule(0, 1), 0);
        due("no TAKES", idle().rule(1, 1), 0);
        due("six", of("h0,1,10,0;s60;s60;s60;s60;s60;s60;t0,50;t0,50;t0,50;t0,50;t0,50;t0,50;").rule(1, 1), 6);
    }

    @Sentence(of = "promise 25", says = "NONE.")
    static void promise25_none() {
        for (int rule = 0; rule < 2; rule++) {
            for (int what = 0; what < 2; what++) {
                int r = rule;
                int w = what;
                keepsAll(BoundariesForetoldTest::hopeless, "rule(" + rule + ", " + what + ")", x -> x.rule(r, w), NONE);
            }
        }
    }

    @Sentence(of = "promise 25", says = "BAD;")
    static void promise25_bad() {
        for (int wrong : new int[] {LEAST, -1, 2, MOST}) {
            bad(Sentences::busy, "rule(" + wrong + ", 0)", x -> x.rule(wrong, 0));
            bad(Sentences::busy, "rule(0, " + wrong + ")", x -> x.rule(0, wrong));
            bad(BoundariesForetoldTest::hopeless, "rule(1, " + wrong + ")", x -> x.rule(1, wrong));
        }
    }

    @Sentence(of = "promise 25", says = "STATE: no BOOK (ahead of BAD).")
    static void promise25_noBook() {
        state(Sentences::noBook, "rule(0, 0)", x -> x.rule(0, 0));
        state(Sentences::noBook, "rule(2, 0)", x -> x.rule(2, 0));
        state(Sentences::noBook, "rule(0, 2)", x -> x.rule(0, 2));
    }

    // ---- promise 26

    @Sentence(of = "promise 26", says = "By a RULE (0, 1): TAKES (bits) that a CAN has")
    static void promise26_takes() {
        int[][] sets = {{2, 0, 4, 8}, {0, 2, 4, 8}};
        for (int rule = 0; rule < 2; rule++) {
            for (int c = 0; c < 4; c++) {
                due("ruleOf(" + rule + ", " + c + ")", busy().ruleOf(rule, c), sets[rule][c]);
                FilmCans x = busy();
                x.ruleOf(1 - rule, c);
                due("ruleOf(" + rule + ", " + c + ") behind the other", x.ruleOf(rule, c), sets[rule][c]);
            }
            due("all eight", of("h0,1,10,0;n99;t0,1;t0,1;t0,1;t0,1;t0,1;t0,1;t0,1;t0,1;").ruleOf(rule, 0), 255);
            due("no TAKES", idle().ruleOf(rule, 0), 0);
        }
    }

    @Sentence(of = "promise 26", says = "(0, if it is no ROOM);")
    static void promise26_noRoom() {
        for (int r = 0; r < 2; r++) {
            int rule = r;
            keepsAll(Sentences::busy, "ruleOf(" + rule + ", 4)", x -> x.ruleOf(rule, 4), 0);
            keepsAll(BoundariesForetoldTest::oneSpent, "ruleOf(" + rule + ", 0)", x -> x.ruleOf(rule, 0), 0);
        }
    }

    @Sentence(of = "promise 26", says = "NONE.")
    static void promise26_none() {
        for (int r = 0; r < 2; r++) {
            int rule = r;
            for (int c = 0; c < 4; c++) {
                int can = c;
                keepsAll(BoundariesForetoldTest::hopeless, "ruleOf(" + rule + ", " + can + ")", x -> x.ruleOf(rule, can), NONE);
            }
        }
    }

    @Sentence(of = "promise 26", says = "BAD.")
    static void promise26_bad() {
        for (int can : new int[] {LEAST, NONE, -1, 5, 6, MOST}) {
            bad(Sentences::busy, "ruleOf(0, " + can + ")", x -> x.ruleOf(0, can));
            bad(BoundariesForetoldTest::hopeless, "ruleOf(1, " + can + ")", x -> x.ruleOf(1, can));
        }
        for (int rule : new int[] {LEAST, -1, 2, MOST}) {
            bad(Sentences::busy, "ruleOf(" + rule + ", 0)", x -> x.ruleOf(rule, 0));
        }
        bad(Sentences::noBook, "ruleOf(0, 0)", x -> x.ruleOf(0, 0));
    }

    // ---- promise 27

    @Sentence(of = "promise 27", says = "The greatest FEET (1 to 60) that an OPEN TAKE may have, so that all can be PLACED;")
    static void promise27_greatest() {
        due("longer(1)", busy().longer(1), 38);
        due("longer(2)", busy().longer(2), 27);
        due("longer(3)", busy().longer(3), 46);
        due("just 60", of("h2,1,10,0;n62;t0,5;").longer(0), 60);
        due("one less", of("h2,1,10,0;n61;t0,5;").longer(0), 59);
        due("60 at most", of("h2,1,10,0;n99;t0,5;").longer(0), 60);
        due("1", of("h2,1,10,0;n3;t0,5;").longer(0), 1);
        due("less than it has", of("h2,1,10,0;n30;t0,60;").longer(0), 28);
        due("beside another", of("h2,1,10,0;n30;t0,60;t0,20;").longer(0), 8);
        due("with two SLATES", of("h2,1,10,0;g30;t0,60;t0,20;").longer(0), 6);
        due("the other on the smaller one", of("h2,1,10,0;n22;n60;t0,60;t0,20;").longer(0), 58);
        due("only one FINE for both", of("h2,1,10,0;n99;g30;t3,5;t3,20;").longer(0), 6);
        due("the eighth", of("h0,1,10,0;n50;t0,1;t0,1;t0,1;t0,1;t0,1;t0,1;t0,1;t0,1;").longer(7), 43);
    }

    @Sentence(of = "promise 27", says = "NONE.")
    static void promise27_none() {
        due("no foot is left", of("h2,1,10,0;n2;t0,5;").longer(0), NONE);
        due("not served", of("h2,1,10,0;n50;t4,5;").longer(0), NONE);
        due("the other has all", of("h2,1,10,0;n22;t0,5;t0,20;").longer(0), NONE);
        due("the other leaves one", of("h2,1,10,0;n23;t0,5;t0,20;").longer(0), 1);
        keepsAll(BoundariesForetoldTest::hopeless, "longer(2), another can not be PLACED", x -> x.longer(2), NONE);
        keepsAll(BoundariesForetoldTest::hopeless, "longer(1), it can be shorter", x -> x.longer(1), 24);
        keepsAll(() -> {
            FilmCans x = oneSpent();
            x.load(1);
            x.law(1, 40);
            x.demand(0, 0, 11);
            x.shoot(0);
            x.unload();
            x.ask(0, 1);
            return x;
        }, "longer(1), no ROOM", x -> x.longer(1), NONE);
    }

    @Sentence(of = "promise 27", says = "BAD;")
    static void promise27_bad() {
        for (int take : new int[] {LEAST, NONE, -1, 6, 8, MOST}) {
            bad(Sentences::busy, "longer(" + take + ")", x -> x.longer(take));
        }
        bad(Sentences::eightTakes, "longer(8)", x -> x.longer(8));
        bad(Sentences::noBook, "longer(0)", x -> x.longer(0));
    }

    @Sentence(of = "promise 27", says = "STATE: it is SHOT.")
    static void promise27_shot() {
        for (int take : new int[] {0, 4, 5}) {
            state(Sentences::busy, "longer(" + take + ")", x -> x.longer(take));
            state(BoundariesForetoldTest::hopeless, "longer(" + take + ")", x -> x.longer(take));
        }
    }

    // ---- promise 28

    private static void more(String text, int... least) {
        FilmCans x = of(text);
        for (int kind = 1; kind <= 5; kind++) {
            due("more(" + kind + ") of " + text, x.more(kind), least[kind - 1]);
        }
    }

    @Sentence(of = "promise 28", says = "The least FEET (1 to 99) of one CAN more, of a KIND (1 to 5), on THE SHELF, so that all can be PLACED")
    static void promise28_least() {
        more("h2,5,20,3;n30;t0,60;", 62, 62, 63, 64, 64);
        more("h0,1,10,0;r9;t1,1;", 1, 1, 2, NONE, NONE);
        more("h0,1,10,0;n9;t4,1;", NONE, NONE, NONE, 1, 1);
        more("h0,1,10,0;n9;t5,1;", NONE, NONE, NONE, NONE, 1);
        more("h9,1,10,0;r9;t1,60;t1,30;", 99, 99, NONE, NONE, NONE);
        more("h0,1,10,0;n10;t0,10;t0,5;", 5, 5, 6, 5, 5);
        more("h0,1,10,0;n5;t0,10;t0,5;", 10, 10, 11, 10, 10);
        more("h0,1,10,0;n9;t0,10;t0,5;t0,4;", 10, 10, 11, 10, 10);
        // the others are placed anew: 20 on the old one, 10 and 9 on the new one
        more("h0,1,10,0;n20;t0,10;t0,9;t0,20;", 19, 19, 21, 19, 19);
        FilmCans x = of("h4,1,10,0;n20;t0,17;");
        x.load(0);
        due("one more has LEAD, though the one in THE CAMERA has none", x.more(1), 21);
        x.demand(0, 0, 16);
        due("it has 16", x.more(1), 0);
    }

    @Sentence(of = "promise 28", says = "(there may be 7 then);")
    static void promise28_seven() {
        more("h0,1,10,0;n1;n1;n1;n1;n1;n1;t0,5;", 5, 5, 6, 5, 5);
        Supplier<FilmCans> six = () -> of("h0,1,10,0;n1;n1;n1;n1;n1;n1;t0,5;");
        keepsAll(six, "more(1)", x -> x.more(1), 5);
        due("6 yet", six.get().count(0), 6);
        // all seven are needed
        more("h0,1,10,0;n1;n1;n1;n1;n1;n1;t0,1;t0,1;t0,1;t0,1;t0,1;t0,1;t0,1;", 1, 1, 2, 1, 1);
    }

    @Sentence(of = "promise 28", says = "0: they can without;")
    static void promise28_without() {
        for (int k = 1; k <= 5; k++) {
            int kind = k;
            keepsAll(Sentences::busy, "more(" + kind + ")", x -> x.more(kind), 0);
            due("no TAKES", idle().more(kind), 0);
        }
        more("h0,1,10,0;n5;t0,5;", 0, 0, 0, 0, 0);
        more("h0,1,10,0;n4;t0,5;", 5, 5, 6, 5, 5);
    }

    @Sentence(of = "promise 28", says = "NONE.")
    static void promise28_none() {
        more("h9,1,10,0;n9;t0,60;t0,31;", NONE, NONE, NONE, NONE, NONE);
        more("h0,1,10,0;n9;t0,60;t0,39;", 99, 99, NONE, 99, 99);
        more("h0,1,10,0;n9;t0,60;t0,40;", NONE, NONE, NONE, NONE, NONE);
        more("h0,1,10,0;n9;t2,10;t4,10;", NONE, NONE, NONE, NONE, NONE);
        keepsAll(BoundariesForetoldTest::hopeless, "more(1), not FAST", x -> x.more(1), NONE);
    }

    @Sentence(of = "promise 28", says = "BAD;")
    static void promise28_bad() {
        for (int kind : new int[] {LEAST, -1, 0, 6, 32, MOST}) {
            bad(Sentences::busy, "more(" + kind + ")", x -> x.more(kind));
            bad(BoundariesForetoldTest::hopeless, "more(" + kind + ")", x -> x.more(kind));
        }
    }

    @Sentence(of = "promise 28", says = "STATE: no BOOK (ahead of BAD).")
    static void promise28_noBook() {
        for (int kind : new int[] {0, 1, 5, 6}) {
            state(Sentences::noBook, "more(" + kind + ")", x -> x.more(kind));
        }
    }

    // ---- promise 29

    @Sentence(of = "promise 29", says = "ROOMS (bits) without any of which, by itself, OPEN TAKES can not be PLACED on the others;")
    static void promise29_needed() {
        due("busy", busy().needed(), 12);
        due("no TAKES", idle().needed(), 0);
        due("the only one", of("h0,1,10,0;n9;t0,9;").needed(), 1);
        due("either of two", of("h0,1,10,0;n9;n9;t0,9;").needed(), 0);
        due("both of two", of("h0,1,10,0;n9;n9;t0,9;t0,9;").needed(), 3);
        due("two of three", of("h0,1,10,0;n9;n9;n9;t0,9;t0,9;").needed(), 0);
        due("the last of six", of("h0,1,10,0;n9;n9;n9;n9;n9;n10;t0,10;").needed(), 32);
        due("all six", of("h0,1,10,0;n9;n9;n9;n9;n9;n9;t0,9;t0,9;t0,9;t0,9;t0,9;t0,9;").needed(), 63);
        FilmCans x = of("h0,1,10,0;n9;n9;t0,9;");
        x.load(0);
        x.unload();
        due("on THE SHELF again", x.needed(), 0);
        x.load(1);
        due("in THE CAMERA", x.needed(), 0);
        x.law(0, 1);
        due("only that in THE CAMERA has no LEAD", x.needed(), 2);
        due("a SPENT one is not needed", oneSpent().needed(), 2);
    }

    @Sentence(of = "promise 29", says = "NONE: they can not be PLACED at all.")
    static void promise29_none() {
        keepsAll(BoundariesForetoldTest::hopeless, "needed()", FilmCans::needed, NONE);
        due("one foot too few", of("h0,1,10,0;n8;t0,9;").needed(), NONE);
    }

    @Sentence(of = "promise 29", says = "STATE: no BOOK.")
    static void promise29_noBook() {
        state(Sentences::noBook, "needed()", FilmCans::needed);
        state(Sentences::fresh, "needed()", FilmCans::needed);
    }

    // ---- promise 30

    @Sentence(of = "promise 30", says = "FOGGED: above (what = 0), below (1).")
    static void promise30_fogged() {
        // cans 2 and 3 are needed, and with them all can be placed
        fog(busy(), 0, 1, 1);
        fog(busy(), 1, 81, 100);
        fog(busy(), 5, 1, 4);
        fog(busy(), 9, 1, 100);
        fog(busy(), 10, 0, 1);
        fog(hopeless(), 0, 0, 1);
        fog(hopeless(), 10, 0, 1);
        // without TAKES nothing has to be placed
        fog(idle(), 0, 1, 1);
        fog(idle(), 7, 1, 1);
        fog(idle(), 10, 1, 1);
        // without ROOMS, too
        FilmCans x = of("h0,40,10,0;n9;");
        x.load(0);
        x.unload();
        fog(x, 3, 1, 1);
        x.ask(0, 1);
        fog(x, 3, 0, 1);
    }

    @Sentence(of = "promise 30", says = "BAD;")
    static void promise30_bad() {
        for (int p : new int[] {LEAST, -1, 11, MOST}) {
            bad(Sentences::busy, "fogged(" + p + ", 0)", x -> x.fogged(p, 0));
        }
        for (int what : new int[] {LEAST, -1, 2, MOST}) {
            bad(Sentences::busy, "fogged(0, " + what + ")", x -> x.fogged(0, what));
        }
    }

    @Sentence(of = "promise 30", says = "STATE: no BOOK (ahead of BAD).")
    static void promise30_noBook() {
        state(Sentences::noBook, "fogged(0, 0)", x -> x.fogged(0, 0));
        state(Sentences::noBook, "fogged(11, 0)", x -> x.fogged(11, 0));
        state(Sentences::noBook, "fogged(0, 2)", x -> x.fogged(0, 2));
    }

    // ---- promise 31

    @Sentence(of = "promise 31", says = "YEARS by a SEED (1 to 999999): LOSSES by the BEST behind each, where all can be PLACED, together (what = 0);")
    static void promise31_losses() {
        // 31 of 40, then 4 of 40, none of which leaves less than 5
        FilmCans x = of("h2,5,20,3;n40;t0,10;");
        due("no times", x.drawn(0, 1, 0), 0);
        due("once", x.drawn(1, 1, 0), 2);
        due("twice", x.drawn(2, 1, 0), 4);
        due("the last SEED", x.drawn(1, 999999, 0), 2);
        // 31 of 32: the end of 1 less is lost, then 4
        FilmCans y = of("h0,5,20,3;n32;t0,10;");
        due("an end of 1", y.drawn(1, 1, 0), 1);
        due("an end of 28", y.drawn(2, 1, 0), 1);
        // 60 have no place, so that they lose nothing
        due("not PLACED", y.drawn(1, 67, 0), 0);
        // by the BEST, not by a rule: 31 go on the CAN of 31
        due("the BEST of two", of("h0,40,20,3;n60;n31;t0,10;").drawn(1, 1, 0), 0);
    }

    @Sentence(of = "promise 31", says = "how often they can not (1).")
    static void promise31_failures() {
        due("no times", of("h0,1,20,3;n1;t4,1;").drawn(0, 1, 1), 0);
        due("always", of("h0,1,20,3;n1;t4,1;").drawn(20, 1, 1), 20);
        due("never", of("h0,1,20,3;n60;t0,1;").drawn(20, 1, 1), 0);
        due("31 of 31", of("h0,1,20,3;n31;t0,60;").drawn(1, 1, 1), 0);
        due("31 of 30", of("h0,1,20,3;n30;t0,1;").drawn(1, 1, 1), 1);
        due("31 of 30, then 4 of 30", of("h0,1,20,3;n30;t0,1;").drawn(2, 1, 1), 1);
    }

    @Sentence(of = "promise 31", says = "(Without OPEN TAKES nothing has other FEET.)")
    static void promise31_withoutOpenTakes() {
        keepsAll(BoundariesForetoldTest::idle, "drawn(20, 1, 0)", x -> x.drawn(20, 1, 0), 0);
        keepsAll(BoundariesForetoldTest::idle, "drawn(20, 1, 1)", x -> x.drawn(20, 1, 1), 0);
        Supplier<FilmCans> allShot = () -> {
            FilmCans x = of("h0,1,20,3;s60;t0,9;");
            x.load(0);
            x.shoot(0);
            return x;
        };
        keepsAll(allShot, "drawn(20, 1, 0)", x -> x.drawn(20, 1, 0), 0);
        keepsAll(allShot, "drawn(20, 1, 1)", x -> x.drawn(20, 1, 1), 0);
    }

    @Sentence(of = "promise 31", says = "BAD;")
    static void promise31_bad() {
        for (int n : new int[] {LEAST, -1, 21, MOST}) {
            bad(Sentences::busy, "drawn(" + n + ", 1, 0)", x -> x.drawn(n, 1, 0));
        }
        for (int seed : new int[] {LEAST, -1, 0, 1000000, MOST}) {
            bad(Sentences::busy, "drawn(1, " + seed + ", 0)", x -> x.drawn(1, seed, 0));
            bad(BoundariesForetoldTest::idle, "drawn(0, " + seed + ", 0)", x -> x.drawn(0, seed, 0));
        }
        for (int what : new int[] {LEAST, -1, 2, MOST}) {
            bad(Sentences::busy, "drawn(1, 1, " + what + ")", x -> x.drawn(1, 1, what));
        }
    }

    @Sentence(of = "promise 31", says = "STATE: no BOOK (ahead of BAD).")
    static void promise31_noBook() {
        state(Sentences::noBook, "drawn(1, 1, 0)", x -> x.drawn(1, 1, 0));
        state(Sentences::noBook, "drawn(21, 1, 0)", x -> x.drawn(21, 1, 0));
        state(Sentences::noBook, "drawn(1, 0, 0)", x -> x.drawn(1, 0, 0));
        state(Sentences::noBook, "drawn(1, 1, 2)", x -> x.drawn(1, 1, 2));
    }

    // ---- promise 32

    /** Almost all is another than in busy(). */
    private static void turnAround(FilmCans x) {
        x.again(4);
        x.unload();
        x.lab();
        x.law(0, 9);
        x.law(1, 40);
        x.law(2, 99);
        x.law(3, 20);
        x.buy(5, 99);
        x.become(1, 5);
        x.demand(1, 4, 60);
        x.ask(0, 60);
        x.load(2);
        x.shoot(2);
        x.unload();
        x.load(5);
        x.shoot(4);
    }

    @Sentence(of = "promise 32", says = "An IMAGE (0, 1) is kept of the BOOK, the day and all: 1.")
    static void promise32_kept() {
        for (int k = 0; k < 2; k++) {
            int image = k;
            FilmCans x = busy();
            due("image(" + k + ")", x.image(k), 1);
            due("it is no ACT", x.count(5), 9);
            due("the tape stays", x.count(6), 2);
            due("ACTS can be undone", x.undo(), 8);
            sameDay("image(" + k + ") changes nothing", () -> {
                FilmCans y = busy();
                y.image(image);
                return y;
            }, Sentences::busy);
            sameDay("image(" + k + ") keeps all", () -> {
                FilmCans y = busy();
                y.image(image);
                turnAround(y);
                y.restore(image);
                return y;
            }, Sentences::busy);
            sameDay("a later image(" + k + ") stands in place", () -> {
                FilmCans y = busy();
                y.image(image);
                y.unload();
                y.image(image);
                turnAround(y);
                y.restore(image);
                return y;
            }, Sentences::noon);
            sameDay("image(" + k + ") leaves the other", () -> {
                FilmCans y = morning();
                y.image(1 - image);
                y.load(2);
                y.image(image);
                y.restore(1 - image);
                return y;
            }, Sentences::morning);
        }
    }

    @Sentence(of = "promise 32", says = "BAD;")
    static void promise32_bad() {
        for (int k : new int[] {LEAST, -1, 2, 32, MOST}) {
            bad(Sentences::busy, "image(" + k + ")", x -> x.image(k));
            bad(Sentences::noBook, "image(" + k + ")", x -> x.image(k));
        }
    }

    @Sentence(of = "promise 32", says = "STATE: no BOOK.")
    static void promise32_noBook() {
        for (int k = 0; k < 2; k++) {
            int image = k;
            state(Sentences::fresh, "image(" + k + ")", x -> x.image(image));
            state(Sentences::noBook, "image(" + k + ")", x -> x.image(image));
            FilmCans x = noBook();
            x.image(k);
            due("none was kept", x.restore(k), STATE);
        }
    }

    // ---- promise 33

    @Sentence(of = "promise 33", says = "The BOOK is as an IMAGE kept it")
    static void promise33_asAnImageKeptIt() {
        sameDay("restore(0)", () -> {
            FilmCans x = busy();
            x.restore(0);
            return x;
        }, Sentences::morning);
        sameDay("restore(0) behind another BOOK", () -> {
            FilmCans x = busyWithoutTape();
            Check.feed(x, "h0,1,10,0;s99;t5,60;");
            x.book();
            x.load(0);
            x.restore(0);
            return x;
        }, Sentences::morning);
        sameDay("restore(0) twice, with ACTS between", () -> {
            FilmCans x = busy();
            x.restore(0);
            turnAround(x);
            x.restore(0);
            return x;
        }, Sentences::morning);
        sameDay("the other IMAGE stays", () -> {
            FilmCans x = morning();
            x.load(4);
            x.image(1);
            x.restore(0);
            turnAround(x);
            x.restore(1);
            return x;
        }, () -> {
            FilmCans x = morning();
            x.load(4);
            return x;
        });
    }

    @Sentence(of = "promise 33", says = "(no ACT can be undone then): 1.")
    static void promise33_noActCanBeUndone() {
        for (int k = 0; k < 2; k++) {
            FilmCans x = busy();
            due("restore(" + k + ")", x.restore(k), 1);
            due("no ACT", x.count(5), 0);
            due("undo()", x.undo(), STATE);
            x.law(0, 7);
            due("one ACT", x.count(5), 1);
            due("it can be undone", x.undo(), 0);
            due("LEADER of the IMAGE", x.can(0, 5), 2);
            due("none before it", x.undo(), STATE);
        }
    }

    @Sentence(of = "promise 33", says = "BAD;")
    static void promise33_bad() {
        for (int k : new int[] {LEAST, -1, 2, 32, MOST}) {
            bad(Sentences::busy, "restore(" + k + ")", x -> x.restore(k));
            bad(Sentences::fresh, "restore(" + k + ")", x -> x.restore(k));
        }
    }

    @Sentence(of = "promise 33", says = "STATE: none was kept.")
    static void promise33_noneWasKept() {
        for (int k = 0; k < 2; k++) {
            int image = k;
            state(Sentences::fresh, "restore(" + k + ")", x -> x.restore(image));
            state(Sentences::noBook, "restore(" + k + ")", x -> x.restore(image));
            state(BoundariesForetoldTest::oneSpent, "restore(" + k + ")", x -> x.restore(image));
            state(() -> {
                FilmCans x = oneSpent();
                x.image(1 - image);
                return x;
            }, "restore(" + k + "), only the other was kept", x -> x.restore(image));
        }
    }

    // ---- promise 34

    @Sentence(of = "promise 34", says = "How many: 0 CANS, 1 TAKES, 2 OPEN ones, 3 ROOMS, 4 ROLLS that WAIT, 5 ACTS that can be undone, 6 bytes on the tape.")
    static void promise34_count() {
        int[] busy = {5, 6, 3, 4, 2, 9, 2};
        int[] without = {0, 0, 0, 0, 0, 0, 2};
        for (int w = 0; w < 7; w++) {
            int what = w;
            keepsAll(Sentences::busy, "count(" + what + ")", x -> x.count(what), busy[what]);
            keepsAll(Sentences::noBook, "count(" + what + ")", x -> x.count(what), without[what]);
            keepsAll(Sentences::fresh, "count(" + what + ")", x -> x.count(what), 0);
        }
        due("six CANS", sixCans().count(0), 6);
        due("eight TAKES", eightTakes().count(1), 8);
        due("eight ROLLS", eightWait().count(4), 8);
        due("twenty ACTS", eightWait().count(5), 20);
    }

    @Sentence(of = "promise 34", says = "BAD.")
    static void promise34_bad() {
        for (int what : new int[] {LEAST, -1, 7, 32, MOST}) {
            bad(Sentences::busy, "count(" + what + ")", x -> x.count(what));
            bad(Sentences::noBook, "count(" + what + ")", x -> x.count(what));
        }
    }
}
