import java.util.ArrayDeque;
import java.util.ArrayList;
import java.util.Arrays;
import java.util.Deque;
import java.util.List;
import java.util.regex.Matcher;
import java.util.regex.Pattern;

/**
 * The document once more, told as plainly as can be and without any care for speed: all ways are tried.
 * It shares nothing with the class but the numbers of the refusals.
 */
final class Model {
    static final int NONE = -1000000, BAD = -1000001, STATE = -1000002, FULL = -1000003;
    static final int[] PARENT = {-1, 0, 1, 1, 0, 4};
    static final int[][] LAW_RANGE = {{0, 9}, {1, 40}, {10, 99}, {0, 20}};

    static final class Can {
        int kind, feet, place;
        boolean isShort;

        Can(int kind, int feet) {
            this.kind = kind;
            this.feet = feet;
        }

        Can copy() {
            Can c = new Can(kind, feet);
            c.place = place;
            c.isShort = isShort;
            return c;
        }
    }

    static final class Take {
        int kind, feet, on = NONE;

        Take(int kind, int feet) {
            this.kind = kind;
            this.feet = feet;
        }

        Take copy() {
            Take t = new Take(kind, feet);
            t.on = on;
            return t;
        }
    }

    record Roll(int can, int feet, int family) { }

    static final class Book {
        int[] law = new int[4];
        List<Can> cans = new ArrayList<>();
        List<Take> takes = new ArrayList<>();
        List<Roll> rolls = new ArrayList<>();
        int cameraRoll, bought, exposed, waste, paid;

        Book copy() {
            Book b = new Book();
            b.law = law.clone();
            for (Can c : cans) b.cans.add(c.copy());
            for (Take t : takes) b.takes.add(t.copy());
            b.rolls.addAll(rolls);
            b.cameraRoll = cameraRoll;
            b.bought = bought;
            b.exposed = exposed;
            b.waste = waste;
            b.paid = paid;
            return b;
        }

        int inCamera() {
            for (int i = 0; i < cans.size(); i++) if (cans.get(i).place == 1) return i;
            return NONE;
        }

        int lead(Can c) { return of(c.kind, 4) ? law[0] * 2 : law[0]; }
        int slate(Can c) { return c.kind == 3 ? 1 : 0; }
        boolean kept(Can c, int end) {
            if (end < 1 || c.kind == 5) return false;
            return c.kind == 2 ? end >= law[1] / 2 : end >= law[1];
        }
        boolean serves(Can c, Take t) { return of(c.kind, t.kind); }
        List<Integer> open() {
            List<Integer> list = new ArrayList<>();
            for (int i = 0; i < takes.size(); i++) if (takes.get(i).on == NONE) list.add(i);
            return list;
        }
        List<Integer> rooms() {
            List<Integer> list = new ArrayList<>();
            for (int i = 0; i < cans.size(); i++) if (cans.get(i).place != 2) list.add(i);
            return list;
        }
        /** Feet left of a can with these takes; negative: not so many. */
        int left(int can, int set) {
            Can c = cans.get(can);
            int left = c.feet;
            if (set == 0) return left;
            if (c.place == 0) left -= lead(c);
            for (int t = 0; t < takes.size(); t++) if ((set >> t & 1) == 1) left -= takes.get(t).feet + slate(c);
            return left;
        }
        int loss(int can, int set) {
            if (set == 0) return 0;
            Can c = cans.get(can);
            int loss = c.place == 0 ? lead(c) : 0;
            loss += slate(c) * Integer.bitCount(set);
            int end = left(can, set);
            return kept(c, end) ? loss : loss + end;
        }
        boolean mayHave(int can, int take, int had) {
            return cans.get(can).place != 2 && serves(cans.get(can), takes.get(take)) && left(can, had | 1 << take) >= 0;
        }
    }

    static boolean of(int kind, int other) {
        for (int k = kind; k >= 0; k = PARENT[k]) if (k == other) return true;
        return false;
    }

    private StringBuilder tape = new StringBuilder();
    private int fault;
    private Book book;
    private final Book[] images = new Book[2];
    private final Deque<Book> acts = new ArrayDeque<>();

    private void act() {
        acts.addLast(book.copy());
        if (acts.size() > 20) acts.removeFirst();
    }

    private boolean noCan(int can) { return book == null || can < 0 || can >= book.cans.size(); }
    private boolean noTake(int take) { return book == null || take < 0 || take >= book.takes.size(); }
    private static boolean out(int v, int least, int most) { return v < least || v > most; }

    int feed(int letter) {
        if (out(letter, 0, 255)) return BAD;
        if (tape.length() == 110) return FULL;
        tape.append((char) letter);
        return tape.length();
    }

    private record Token(int at, String text) { }
    private static final Pattern TOKEN = Pattern.compile("[0-9]+|.", Pattern.DOTALL);

    /** Tokens against a list of what is due, made longer as cans and takes are met. */
    int book() {
        List<Token> tokens = new ArrayList<>();
        Matcher m = TOKEN.matcher(tape);
        while (m.find()) tokens.add(new Token(m.start(), m.group()));
        tokens.add(new Token(tape.length(), ""));
        tape = new StringBuilder();
        Book b = new Book();
        List<String> due = new ArrayList<>(List.of("h", "0-9", ",", "1-40", ",", "10-99", ",", "0-20", ";", "can"));
        List<Integer> numbers = new ArrayList<>();
        for (int i = 0; i < due.size(); i++) {
            Token t = tokens.get(i);
            String d = due.get(i);
            int f = 0;
            if (d.equals("can") || d.equals("can?") || d.equals("take?")) {
                boolean sort = t.text.length() == 1 && "nfgrs".contains(t.text);
                if (sort && !d.equals("take?")) {
                    if (b.cans.size() == 6) f = 3;
                    b.cans.add(new Can("-nfgrs".indexOf(t.text), 0));
                    due.addAll(List.of("1-99", ";", "can?"));
                } else if (t.text.equals("t") && !d.equals("can")) {
                    if (b.takes.size() == 8) f = 3;
                    b.takes.add(new Take(0, 0));
                    due.addAll(List.of("0-5", ",", "1-60", ";", "take?"));
                } else if (!t.text.isEmpty() || d.equals("can")) {
                    f = 1;
                }
            } else if (d.contains("-")) {
                if (!t.text.matches("[0-9]{1,2}")) {
                    f = 1;
                } else {
                    int v = Integer.parseInt(t.text);
                    String[] ends = d.split("-");
                    if (v < Integer.parseInt(ends[0]) || v > Integer.parseInt(ends[1])) f = 2;
                    numbers.add(v);
                }
            } else if (!t.text.equals(d)) {
                f = 1;
            }
            if (f != 0) {
                fault = f;
                return -1000100 - t.at;
            }
        }
        int k = 0;
        for (; k < 4; k++) b.law[k] = numbers.get(k);
        for (Can c : b.cans) {
            c.feet = numbers.get(k++);
            b.bought += c.feet;
        }
        for (Take t : b.takes) {
            t.kind = numbers.get(k++);
            t.feet = numbers.get(k++);
        }
        book = b;
        acts.clear();
        return b.cans.size();
    }

    int fault() { return fault; }

    int undo() {
        if (acts.isEmpty()) return STATE;
        book = acts.removeLast();
        return acts.size();
    }

    int load(int can) {
        if (noCan(can)) return BAD;
        Can c = book.cans.get(can);
        if (book.inCamera() != NONE || c.place != 0 || c.feet < book.lead(c)) return STATE;
        act();
        c = book.cans.get(can);
        c.place = 1;
        c.feet -= book.lead(c);
        book.waste += book.lead(c);
        book.cameraRoll = 0;
        return c.feet;
    }

    int shoot(int take) {
        if (noTake(take)) return BAD;
        int can = book.inCamera();
        Take t = book.takes.get(take);
        if (can == NONE || t.on != NONE || !book.serves(book.cans.get(can), t)) return STATE;
        Can c = book.cans.get(can);
        if (c.feet < t.feet + book.slate(c)) return FULL;
        act();
        c.feet -= t.feet + book.slate(c);
        book.exposed += t.feet;
        book.waste += book.slate(c);
        book.cameraRoll += t.feet;
        t.on = can;
        return c.feet;
    }

    int unload() {
        if (book == null || book.inCamera() == NONE) return STATE;
        if (book.cameraRoll > 0 && book.rolls.size() == 8) return FULL;
        act();
        int can = book.inCamera();
        Can c = book.cans.get(can);
        if (book.cameraRoll > 0) book.rolls.add(new Roll(can, book.cameraRoll, of(c.kind, 4) ? 1 : 0));
        book.cameraRoll = 0;
        if (book.kept(c, c.feet)) {
            c.place = 0;
            c.isShort = true;
            return c.feet;
        }
        book.waste += c.feet;
        c.feet = 0;
        c.place = 2;
        return 0;
    }

    private int labBatches() {
        List<int[]> batches = new ArrayList<>();
        for (Roll r : book.rolls) {
            int[] found = null;
            for (int[] b : batches) {
                if (found == null && b[0] == r.family && b[1] + r.feet <= book.law[2]) found = b;
            }
            if (found == null) {
                found = new int[] {r.family, 0};
                batches.add(found);
            }
            found[1] += r.feet;
        }
        return batches.size();
    }

    private int fewest(int roll, List<int[]> batches) {
        if (roll == book.rolls.size()) return batches.size();
        Roll r = book.rolls.get(roll);
        int best = 99;
        for (int i = 0; i < batches.size(); i++) {
            int[] b = batches.get(i);
            if (b[0] == r.family && b[1] + r.feet <= book.law[2]) {
                b[1] += r.feet;
                best = Math.min(best, fewest(roll + 1, batches));
                b[1] -= r.feet;
            }
        }
        batches.add(new int[] {r.family, r.feet});
        best = Math.min(best, fewest(roll + 1, batches));
        batches.remove(batches.size() - 1);
        return best;
    }

    int lab() {
        if (book == null || book.rolls.isEmpty()) return STATE;
        act();
        int batches = labBatches();
        book.paid += book.law[3] * batches;
        for (Roll r : book.rolls) book.paid += r.feet;
        book.rolls.clear();
        return batches;
    }

    int again(int take) {
        if (noTake(take)) return BAD;
        Take t = book.takes.get(take);
        if (t.on == NONE) return STATE;
        act();
        int can = t.on;
        t.on = NONE;
        book.exposed -= t.feet;
        book.waste += t.feet;
        return can;
    }

    int buy(int kind, int feet) {
        if (book == null) return STATE;
        if (out(kind, 1, 5) || out(feet, 1, 99)) return BAD;
        if (book.cans.size() == 6) return FULL;
        act();
        book.cans.add(new Can(kind, feet));
        book.bought += feet;
        return book.cans.size() - 1;
    }

    int ask(int kind, int feet) {
        if (book == null) return STATE;
        if (out(kind, 0, 5) || out(feet, 1, 60)) return BAD;
        if (book.takes.size() == 8) return FULL;
        act();
        book.takes.add(new Take(kind, feet));
        return book.takes.size() - 1;
    }

    int become(int can, int kind) {
        if (noCan(can) || out(kind, 1, 5)) return BAD;
        Can c = book.cans.get(can);
        if (c.kind == kind || c.place != 0) return STATE;
        act();
        int was = c.kind;
        c.kind = kind;
        return was;
    }

    int demand(int take, int kind, int feet) {
        if (noTake(take) || out(kind, 0, 5) || out(feet, 1, 60)) return BAD;
        Take t = book.takes.get(take);
        if (t.on != NONE) return STATE;
        act();
        int was = t.feet;
        t.kind = kind;
        t.feet = feet;
        return was;
    }

    int law(int which, int v) {
        if (book == null) return STATE;
        if (out(which, 0, 3) || out(v, LAW_RANGE[which][0], LAW_RANGE[which][1])) return BAD;
        act();
        int was = book.law[which];
        book.law[which] = v;
        return was;
    }

    int can(int can, int what) {
        if (noCan(can) || out(what, 0, 7)) return BAD;
        Can c = book.cans.get(can);
        if (what == 0) return c.kind;
        if (what == 1) return c.feet;
        if (what == 2) return c.place;
        if (what == 3) return c.isShort ? 1 : 0;
        if (what == 5) return book.lead(c);
        if (what == 6) return book.slate(c);
        if (what == 7) {
            for (int end = 0; end <= 99; end++) if (book.kept(c, end)) return end;
            return NONE;
        }
        int set = 0;
        for (int t = 0; t < book.takes.size(); t++) if (book.takes.get(t).on == can) set |= 1 << t;
        return set;
    }

    int take(int take, int what) {
        if (noTake(take) || out(what, 0, 3)) return BAD;
        Take t = book.takes.get(take);
        if (what == 0) return t.kind;
        if (what == 1) return t.feet;
        if (what == 2) return t.on;
        int set = 0;
        for (int c = 0; c < book.cans.size(); c++) if (book.serves(book.cans.get(c), t)) set |= 1 << c;
        return set;
    }

    int roll(int roll, int what) {
        if (book == null || roll < 0 || roll >= book.rolls.size() || out(what, 0, 2)) return BAD;
        Roll r = book.rolls.get(roll);
        return what == 0 ? r.can : what == 1 ? r.feet : r.family;
    }

    int sums(int what) {
        if (out(what, 0, 7)) return BAD;
        if (book == null) return 0;
        int shelf = 0, camera = 0, waiting = 0;
        for (Can c : book.cans) {
            if (c.place == 0) shelf += c.feet;
            if (c.place == 1) camera += c.feet;
        }
        for (Roll r : book.rolls) waiting += r.feet;
        return new int[] {book.bought, shelf, camera, book.exposed, book.waste, waiting, book.paid, book.cameraRoll}[what];
    }

    int batches(int what) {
        if (out(what, 0, 1)) return BAD;
        if (book == null) return 0;
        return what == 0 ? labBatches() : fewest(0, new ArrayList<>());
    }

    int as(int can, int kind) {
        if (noCan(can) || out(kind, 0, 5)) return BAD;
        return of(book.cans.get(can).kind, kind) ? can : NONE;
    }

    int fits(int can, int set) {
        if (noCan(can)) return BAD;
        for (int t = 0; t < 32; t++) {
            if ((set >> t & 1) == 1 && (t >= book.takes.size() || book.takes.get(t).on != NONE)) return BAD;
        }
        if (book.cans.get(can).place == 2) return NONE;
        for (int t = 0; t < book.takes.size(); t++) {
            if ((set >> t & 1) == 1 && !book.serves(book.cans.get(can), book.takes.get(t))) return NONE;
        }
        int left = book.left(can, set);
        return left < 0 ? NONE : left;
    }

    /** All ways, one behind the other; the best is kept as {losses, rooms, sets ..}. */
    private static final class Search {
        final Book b;
        final List<Integer> open;
        int[] best;

        Search(Book b) {
            this.b = b;
            open = b.open();
        }

        int[] run() {
            go(0, new int[b.cans.size()]);
            return best;
        }

        private void go(int i, int[] sets) {
            if (i == open.size()) {
                int[] way = measured(b, sets);
                if (best == null || Arrays.compare(way, best) < 0) best = way;
                return;
            }
            int take = open.get(i);
            for (int c = 0; c < sets.length; c++) {
                if (b.mayHave(c, take, sets[c])) {
                    sets[c] |= 1 << take;
                    go(i + 1, sets);
                    sets[c] &= ~(1 << take);
                }
            }
        }
    }

    private static int[] measured(Book b, int[] sets) {
        int[] way = new int[sets.length + 2];
        for (int c = 0; c < sets.length; c++) {
            way[0] += b.loss(c, sets[c]);
            way[1] += sets[c] == 0 ? 0 : 1;
            way[c + 2] = sets[c];
        }
        return way;
    }

    private static boolean placeable(Book b, int without, int i, int[] sets) {
        List<Integer> open = b.open();
        if (i == open.size()) return true;
        int take = open.get(i);
        for (int c = 0; c < sets.length; c++) {
            if ((without >> c & 1) == 0 && b.mayHave(c, take, sets[c])) {
                sets[c] |= 1 << take;
                boolean all = placeable(b, without, i + 1, sets);
                sets[c] &= ~(1 << take);
                if (all) return true;
            }
        }
        return false;
    }

    private static boolean placeable(Book b, int without) {
        return placeable(b, without, 0, new int[b.cans.size()]);
    }

    int plan(int what) {
        if (book == null) return STATE;
        if (out(what, 0, 1)) return BAD;
        int[] best = new Search(book).run();
        return best == null ? NONE : best[what];
    }

    int planOf(int can) {
        if (noCan(can)) return BAD;
        int[] best = new Search(book).run();
        return best == null ? NONE : best[can + 2];
    }

    private int[] byRule(int rule) {
        int[] sets = new int[book.cans.size()];
        for (int take : book.open()) {
            int chosen = -1;
            for (int c = 0; c < sets.length; c++) {
                if (!book.mayHave(c, take, sets[c])) continue;
                if (chosen < 0) chosen = c;
                if (rule == 1 && book.left(c, sets[c] | 1 << take) < book.left(chosen, sets[chosen] | 1 << take)) chosen = c;
            }
            if (chosen < 0) return null;
            sets[chosen] |= 1 << take;
        }
        return measured(book, sets);
    }

    int rule(int rule, int what) {
        if (book == null) return STATE;
        if (out(rule, 0, 1) || out(what, 0, 1)) return BAD;
        int[] way = byRule(rule);
        return way == null ? NONE : way[what];
    }

    int ruleOf(int rule, int can) {
        if (out(rule, 0, 1) || noCan(can)) return BAD;
        int[] way = byRule(rule);
        return way == null ? NONE : way[can + 2];
    }

    int longer(int take) {
        if (noTake(take)) return BAD;
        if (book.takes.get(take).on != NONE) return STATE;
        Book b = book.copy();
        for (int feet = 60; feet >= 1; feet--) {
            b.takes.get(take).feet = feet;
            if (placeable(b, 0)) return feet;
        }
        return NONE;
    }

    int more(int kind) {
        if (book == null) return STATE;
        if (out(kind, 1, 5)) return BAD;
        if (placeable(book, 0)) return 0;
        Book b = book.copy();
        b.cans.add(new Can(kind, 0));
        for (int feet = 1; feet <= 99; feet++) {
            b.cans.get(b.cans.size() - 1).feet = feet;
            if (placeable(b, 0)) return feet;
        }
        return NONE;
    }

    int needed() {
        if (book == null) return STATE;
        if (!placeable(book, 0)) return NONE;
        int set = 0;
        for (int c : book.rooms()) if (!placeable(book, 1 << c)) set |= 1 << c;
        return set;
    }

    long fogged(int p, int what) {
        if (book == null) return STATE;
        if (out(p, 0, 10) || out(what, 0, 1)) return BAD;
        List<Integer> rooms = book.rooms();
        long above = 0, below = 1;
        for (int i = 0; i < rooms.size(); i++) below *= 10;
        for (int way = 0; way < 1 << rooms.size(); way++) {
            int without = 0;
            long cases = 1;
            for (int i = 0; i < rooms.size(); i++) {
                boolean fog = (way >> i & 1) == 1;
                cases *= fog ? p : 10 - p;
                if (fog) without |= 1 << rooms.get(i);
            }
            if (cases > 0 && placeable(book, without)) above += cases;
        }
        long d = java.math.BigInteger.valueOf(above).gcd(java.math.BigInteger.valueOf(below)).longValue();
        return what == 0 ? above / d : below / d;
    }

    int drawn(int n, int seed, int what) {
        if (book == null) return STATE;
        if (out(n, 0, 20) || out(seed, 1, 999999) || out(what, 0, 1)) return BAD;
        Book b = book.copy();
        List<Integer> open = b.open();
        long x = seed;
        int losses = 0, failed = 0;
        for (int i = 0; i < n; i++) {
            x = (x * 16807) % 2147483647L;
            if (!open.isEmpty()) b.takes.get(open.get((int) (x % open.size()))).feet = 1 + (int) ((x / 16) % 60);
            int[] best = new Search(b).run();
            if (best == null) failed++;
            else losses += best[0];
        }
        return what == 0 ? losses : failed;
    }

    int image(int k) {
        if (out(k, 0, 1)) return BAD;
        if (book == null) return STATE;
        images[k] = book.copy();
        return 1;
    }

    int restore(int k) {
        if (out(k, 0, 1)) return BAD;
        if (images[k] == null) return STATE;
        book = images[k].copy();
        acts.clear();
        return 1;
    }

    int count(int what) {
        if (out(what, 0, 6)) return BAD;
        if (what == 5) return acts.size();
        if (what == 6) return tape.length();
        if (book == null) return 0;
        return new int[] {book.cans.size(), book.takes.size(), book.open().size(), book.rooms().size(), book.rolls.size()}[what];
    }
}
