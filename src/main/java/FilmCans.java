import java.util.Arrays;

/** Cans of film, takes to be shot on them, the day's acts, and what can be foretold of them. */
public final class FilmCans {
    public static final int NONE = -1000000, BAD = -1000001, STATE = -1000002, FULL = -1000003;

    private static final int FAULT_BASE = -1000100;
    private static final int TAPE_BYTES = 110;
    private static final int CANS = 6, TAKES = 8, ROLLS = 8, LAWS = 4, ACTS = 20, IMAGES = 2;
    private static final int TAKE_SETS = 256, ROLL_SETS = 256, ROOM_SETS = 64;
    private static final int LEADER = 0, KEEP = 1, BATCH = 2, FEE = 3;
    private static final int[] LAW_LEAST = {0, 1, 10, 0};
    private static final int[] LAW_MOST = {9, 40, 99, 20};
    private static final int CAN_FEET_MOST = 99, TAKE_FEET_MOST = 60;
    private static final int SHELF = 0, CAMERA = 1, SPENT = 2;
    private static final int YEARS_MOST = 20, SEED_MOST = 999999;

    private final Tape tape = new Tape();
    private final Day day = new Day();
    private final Day draft = new Day();
    private final History history = new History();
    private final Day[] images = {new Day(), new Day()};
    private final Laboratory laboratory = new Laboratory();
    private final Rooms rooms = new Rooms();
    private final Best best = new Best();
    private final Reach reach = new Reach();

    public FilmCans() {
    }

    // ---- what is told

    public int feed(int letter) {
        if (letter < 0 || letter > 255) {
            return BAD;
        }
        return tape.append(letter) ? tape.length : FULL;
    }

    public int book() {
        if (!tape.readInto(draft)) {
            return FAULT_BASE - tape.place;
        }
        day.copyFrom(draft);
        history.forget();
        return day.cans;
    }

    public int fault() {
        return tape.fault;
    }

    public int undo() {
        return history.stepBack(day) ? history.kept : STATE;
    }

    // ---- the day

    public int load(int can) {
        if (!day.hasCan(can)) {
            return BAD;
        }
        if (day.camera != NONE || day.canPlace[can] != SHELF || day.canFeet[can] < day.leadOf(can)) {
            return STATE;
        }
        history.keep(day);
        day.thread(can);
        return day.canFeet[can];
    }

    public int shoot(int take) {
        if (!day.hasTake(take)) {
            return BAD;
        }
        int can = day.camera;
        if (!day.hasCan(can) || !day.isOpen(take) || !day.serves(can, take)) {
            return STATE;
        }
        if (day.canFeet[can] < day.takeFeet[take] + Kinds.slateOf(day.canKind[can])) {
            return FULL;
        }
        history.keep(day);
        day.expose(can, take);
        return day.canFeet[can];
    }

    public int unload() {
        int can = day.camera;
        if (!day.hasCan(can)) {
            return STATE;
        }
        if (day.cameraRoll > 0 && day.rolls >= ROLLS) {
            return FULL;
        }
        history.keep(day);
        day.takeOut(can);
        return day.canFeet[can];
    }

    public int lab() {
        if (day.rolls == 0) {
            return STATE;
        }
        history.keep(day);
        int batches = laboratory.byLab(day);
        day.develop(batches);
        return batches;
    }

    public int again(int take) {
        if (!day.hasTake(take)) {
            return BAD;
        }
        if (day.isOpen(take)) {
            return STATE;
        }
        history.keep(day);
        int can = day.takeCan[take];
        day.reopen(take);
        return can;
    }

    public int buy(int kind, int feet) {
        if (hasNoBook()) {
            return STATE;
        }
        if (!isCanKind(kind) || !isCanFeet(feet)) {
            return BAD;
        }
        if (day.cans >= CANS) {
            return FULL;
        }
        history.keep(day);
        return day.addCan(kind, feet);
    }

    public int ask(int kind, int feet) {
        if (hasNoBook()) {
            return STATE;
        }
        if (!Kinds.isKind(kind) || !isTakeFeet(feet)) {
            return BAD;
        }
        if (day.takes >= TAKES) {
            return FULL;
        }
        history.keep(day);
        return day.addTake(kind, feet);
    }

    public int become(int can, int kind) {
        if (!day.hasCan(can) || !isCanKind(kind)) {
            return BAD;
        }
        int before = day.canKind[can];
        if (before == kind || day.canPlace[can] != SHELF) {
            return STATE;
        }
        history.keep(day);
        day.canKind[can] = kind;
        return before;
    }

    public int demand(int take, int kind, int feet) {
        if (!day.hasTake(take) || !Kinds.isKind(kind) || !isTakeFeet(feet)) {
            return BAD;
        }
        if (!day.isOpen(take)) {
            return STATE;
        }
        history.keep(day);
        int before = day.takeFeet[take];
        day.takeKind[take] = kind;
        day.takeFeet[take] = feet;
        return before;
    }

    public int law(int which, int v) {
        if (hasNoBook()) {
            return STATE;
        }
        if (which < 0 || which >= LAWS || v < LAW_LEAST[which] || v > LAW_MOST[which]) {
            return BAD;
        }
        history.keep(day);
        int before = day.laws[which];
        day.laws[which] = v;
        return before;
    }

    // ---- what there is

    public int can(int can, int what) {
        if (!day.hasCan(can)) {
            return BAD;
        }
        switch (what) {
            case 0: return day.canKind[can];
            case 1: return day.canFeet[can];
            case 2: return day.canPlace[can];
            case 3: return day.canShort[can];
            case 4: return day.takesShotOn(can);
            case 5: return day.leadOf(can);
            case 6: return Kinds.slateOf(day.canKind[can]);
            case 7: return day.leastKeptOf(can);
            default: return BAD;
        }
    }

    public int take(int take, int what) {
        if (!day.hasTake(take)) {
            return BAD;
        }
        switch (what) {
            case 0: return day.takeKind[take];
            case 1: return day.takeFeet[take];
            case 2: return day.takeCan[take];
            case 3: return day.cansThatServe(take);
            default: return BAD;
        }
    }

    public int roll(int roll, int what) {
        if (roll < 0 || roll >= day.rolls) {
            return BAD;
        }
        switch (what) {
            case 0: return day.rollCan[roll];
            case 1: return day.rollFeet[roll];
            case 2: return day.rollFamily[roll];
            default: return BAD;
        }
    }

    public int sums(int what) {
        switch (what) {
            case 0: return day.bought;
            case 1: return day.feetOnShelf();
            case 2: return day.hasCan(day.camera) ? day.canFeet[day.camera] : 0;
            case 3: return day.exposed;
            case 4: return day.waste;
            case 5: return day.feetThatWait();
            case 6: return day.paid;
            case 7: return day.cameraRoll;
            default: return BAD;
        }
    }

    public int batches(int what) {
        switch (what) {
            case 0: return laboratory.byLab(day);
            case 1: return laboratory.leastBatches(day);
            default: return BAD;
        }
    }

    public int as(int can, int kind) {
        if (!day.hasCan(can) || !Kinds.isKind(kind)) {
            return BAD;
        }
        return Kinds.isOf(day.canKind[can], kind) ? can : NONE;
    }

    // ---- foretold

    public int fits(int can, int set) {
        if (!day.hasCan(can) || (set & ~day.openTakes()) != 0) {
            return BAD;
        }
        if (!day.isRoom(can)) {
            return NONE;
        }
        if (set == 0) {
            return day.canFeet[can];
        }
        rooms.lookAt(day);
        return rooms.holds(can, set) ? rooms.ends[can][set] : NONE;
    }

    public int plan(int what) {
        if (hasNoBook()) {
            return STATE;
        }
        if (!isZeroOrOne(what)) {
            return BAD;
        }
        return wholeAnswer(placeBest(), what);
    }

    public int planOf(int can) {
        if (!day.hasCan(can)) {
            return BAD;
        }
        return placeBest() ? rooms.sets[can] : NONE;
    }

    public int rule(int rule, int what) {
        if (hasNoBook()) {
            return STATE;
        }
        if (!isZeroOrOne(rule) || !isZeroOrOne(what)) {
            return BAD;
        }
        return wholeAnswer(placeByRule(rule), what);
    }

    public int ruleOf(int rule, int can) {
        if (!isZeroOrOne(rule) || !day.hasCan(can)) {
            return BAD;
        }
        return placeByRule(rule) ? rooms.sets[can] : NONE;
    }

    public int longer(int take) {
        if (!day.hasTake(take)) {
            return BAD;
        }
        if (!day.isOpen(take)) {
            return STATE;
        }
        lookAhead();
        int feet = reach.longestOf(take, rooms);
        return feet < 1 ? NONE : Math.min(feet, TAKE_FEET_MOST);
    }

    public int more(int kind) {
        if (hasNoBook()) {
            return STATE;
        }
        if (!isCanKind(kind)) {
            return BAD;
        }
        lookAhead();
        if (reach.canPlaceAll(rooms)) {
            return 0;
        }
        int lead = Kinds.leadOf(kind, day.laws[LEADER]);
        int feet = reach.leastRest(rooms, day.takesServedBy(kind), lead, Kinds.slateOf(kind));
        return feet > CAN_FEET_MOST ? NONE : feet;
    }

    public int needed() {
        if (hasNoBook()) {
            return STATE;
        }
        lookAhead();
        return reach.canPlaceAll(rooms) ? reach.roomsNeeded(rooms) : NONE;
    }

    public long fogged(int p, int what) {
        if (hasNoBook()) {
            return STATE;
        }
        if (p < 0 || p > 10 || !isZeroOrOne(what)) {
            return BAD;
        }
        lookAhead();
        long above = reach.casesAmongTens(rooms, p);
        long below = power(10, Integer.bitCount(rooms.there));
        long common = greatestDivisor(above, below);
        if (common < 1) {
            return BAD;
        }
        return what == 0 ? above / common : below / common;
    }

    public int drawn(int n, int seed, int what) {
        if (hasNoBook()) {
            return STATE;
        }
        if (n < 0 || n > YEARS_MOST || seed < 1 || seed > SEED_MOST || !isZeroOrOne(what)) {
            return BAD;
        }
        rooms.lookAt(day);
        long x = seed;
        int losses = 0;
        int failures = 0;
        for (int i = 0; i < n; i++) {
            x = x * 16807 % 2147483647L;
            rooms.drawLength(x);
            if (best.place(rooms)) {
                losses += rooms.losses();
            } else {
                failures++;
            }
        }
        return what == 0 ? losses : failures;
    }

    public int image(int k) {
        if (k < 0 || k >= IMAGES) {
            return BAD;
        }
        if (hasNoBook()) {
            return STATE;
        }
        images[k].copyFrom(day);
        return 1;
    }

    public int restore(int k) {
        if (k < 0 || k >= IMAGES) {
            return BAD;
        }
        if (images[k].isEmpty()) {
            return STATE;
        }
        day.copyFrom(images[k]);
        history.forget();
        return 1;
    }

    public int count(int what) {
        switch (what) {
            case 0: return day.cans;
            case 1: return day.takes;
            case 2: return Integer.bitCount(day.openTakes());
            case 3: return Integer.bitCount(day.rooms());
            case 4: return day.rolls;
            case 5: return history.kept;
            case 6: return tape.length;
            default: return BAD;
        }
    }

    // ---- helpers of the calls above

    private boolean hasNoBook() {
        return day.isEmpty();
    }

    private static boolean isCanKind(int kind) {
        return kind != Kinds.FILM && Kinds.isKind(kind);
    }

    private static boolean isCanFeet(int feet) {
        return feet >= 1 && feet <= CAN_FEET_MOST;
    }

    private static boolean isTakeFeet(int feet) {
        return feet >= 1 && feet <= TAKE_FEET_MOST;
    }

    private static boolean isZeroOrOne(int v) {
        return v == 0 || v == 1;
    }

    private boolean placeBest() {
        rooms.lookAt(day);
        return best.place(rooms);
    }

    private boolean placeByRule(int rule) {
        rooms.lookAt(day);
        return rooms.placeRising(rule == 1);
    }

    private int wholeAnswer(boolean placed, int what) {
        if (!placed) {
            return NONE;
        }
        return what == 0 ? rooms.losses() : rooms.used();
    }

    private void lookAhead() {
        rooms.lookAt(day);
        reach.work(rooms);
    }

    private static long power(int base, int exponent) {
        long v = 1;
        for (int i = 0; i < exponent; i++) {
            v *= base;
        }
        return v;
    }

    private static long greatestDivisor(long a, long b) {
        // Euclid needs some thirty steps for numbers up to a million; the bound only makes the end plain.
        for (int i = 0; i < 100 && b != 0; i++) {
            long rest = a % b;
            a = b;
            b = rest;
        }
        return a;
    }

    /** What follows from a kind alone. */
    private static final class Kinds {
        static final int FILM = 0, NEGATIVE = 1, FAST = 2, FINE = 3, REVERSAL = 4, STRIP = 5;
        /** Of each kind the bits of all kinds that it is. */
        private static final int[] IS = {0b000001, 0b000011, 0b000111, 0b001011, 0b010001, 0b110001};

        static boolean isKind(int kind) {
            return kind >= 0 && kind < IS.length;
        }

        static boolean isOf(int kind, int other) {
            return isKind(kind) && isKind(other) && (IS[kind] >> other & 1) == 1;
        }

        static int familyOf(int kind) {
            return isOf(kind, REVERSAL) ? 1 : 0;
        }

        static int leadOf(int kind, int leader) {
            return isOf(kind, REVERSAL) ? 2 * leader : leader;
        }

        static int slateOf(int kind) {
            return isOf(kind, FINE) ? 1 : 0;
        }

        static int leastKept(int kind, int keep) {
            if (isOf(kind, STRIP)) {
                return NONE;
            }
            return Math.max(1, isOf(kind, FAST) ? keep / 2 : keep);
        }

        static boolean isKept(int end, int leastKept) {
            return leastKept != NONE && end >= leastKept;
        }

        /** The kind of a can's letter, NONE if the letter is none of a can. */
        static int ofLetter(int letter) {
            switch (letter) {
                case 'n': return NEGATIVE;
                case 'f': return FAST;
                case 'g': return FINE;
                case 'r': return REVERSAL;
                case 's': return STRIP;
                default: return NONE;
            }
        }
    }

    /** The bytes that came, and how they are read as a book. */
    private static final class Tape {
        private final int[] bytes = new int[TAPE_BYTES];
        int length;
        /** Where reading stands; behind a fault, the fault's place. */
        int place;
        int fault;

        boolean append(int letter) {
            if (length >= TAPE_BYTES) {
                return false;
            }
            bytes[length] = letter;
            length++;
            return true;
        }

        boolean readInto(Day draft) {
            place = 0;
            draft.clear();
            boolean whole = readLaws(draft) && readCans(draft) && readTakes(draft);
            length = 0;
            return whole;
        }

        private boolean readLaws(Day draft) {
            if (!pass('h')) {
                return false;
            }
            for (int i = 0; i < LAWS; i++) {
                int v = readNumber(LAW_LEAST[i], LAW_MOST[i]);
                if (v == NONE || !pass(i < LAWS - 1 ? ',' : ';')) {
                    return false;
                }
                draft.laws[i] = v;
            }
            return true;
        }

        private boolean readCans(Day draft) {
            // One turn more than there is room for, so that the can too many is met as a fault.
            for (int i = 0; i <= CANS && Kinds.ofLetter(next()) != NONE; i++) {
                if (!readCan(draft)) {
                    return false;
                }
            }
            return draft.cans > 0 || refuse(1);
        }

        private boolean readCan(Day draft) {
            if (draft.cans >= CANS) {
                return refuse(3);
            }
            int kind = Kinds.ofLetter(next());
            place++;
            int feet = readNumber(1, CAN_FEET_MOST);
            if (feet == NONE || !pass(';')) {
                return false;
            }
            draft.addCan(kind, feet);
            return true;
        }

        private boolean readTakes(Day draft) {
            for (int i = 0; i <= TAKES && next() == 't'; i++) {
                if (!readTake(draft)) {
                    return false;
                }
            }
            return place == length || refuse(1);
        }

        private boolean readTake(Day draft) {
            if (draft.takes >= TAKES) {
                return refuse(3);
            }
            place++;
            int kind = readNumber(Kinds.FILM, Kinds.STRIP);
            if (kind == NONE || !pass(',')) {
                return false;
            }
            int feet = readNumber(1, TAKE_FEET_MOST);
            if (feet == NONE || !pass(';')) {
                return false;
            }
            draft.addTake(kind, feet);
            return true;
        }

        private int readNumber(int least, int most) {
            int figures = figuresFrom(place);
            if (figures < 1 || figures > 2) {
                refuse(1);
                return NONE;
            }
            int v = 0;
            for (int i = 0; i < figures; i++) {
                v = v * 10 + byteAt(place + i) - '0';
            }
            if (v < least || v > most) {
                refuse(2);
                return NONE;
            }
            place += figures;
            return v;
        }

        private int figuresFrom(int start) {
            int end = start;
            while (end < length && byteAt(end) >= '0' && byteAt(end) <= '9') {
                end++;
            }
            return end - start;
        }

        private boolean pass(int letter) {
            if (next() != letter) {
                return refuse(1);
            }
            place++;
            return true;
        }

        private boolean refuse(int number) {
            fault = number;
            return false;
        }

        private int next() {
            return byteAt(place);
        }

        private int byteAt(int at) {
            return at >= 0 && at < length ? bytes[at] : NONE;
        }
    }

    /** The book and the day: the law, cans, takes, rolls that wait, and the sums. */
    private static final class Day {
        int cans, takes, rolls;
        /** The can in the camera, or NONE. */
        int camera = NONE;
        int cameraRoll;
        int bought, exposed, waste, paid;
        final int[] laws = new int[LAWS];
        final int[] canKind = new int[CANS];
        final int[] canFeet = new int[CANS];
        final int[] canPlace = new int[CANS];
        final int[] canShort = new int[CANS];
        final int[] takeKind = new int[TAKES];
        final int[] takeFeet = new int[TAKES];
        /** The can on which a take is shot, or NONE. */
        final int[] takeCan = new int[TAKES];
        final int[] rollCan = new int[ROLLS];
        final int[] rollFeet = new int[ROLLS];
        final int[] rollFamily = new int[ROLLS];

        /** A book has one can at least, so that a day without cans is one without a book. */
        boolean isEmpty() {
            return cans == 0;
        }

        void clear() {
            cans = 0;
            takes = 0;
            rolls = 0;
            camera = NONE;
            cameraRoll = 0;
            bought = 0;
            exposed = 0;
            waste = 0;
            paid = 0;
        }

        void copyFrom(Day other) {
            cans = other.cans;
            takes = other.takes;
            rolls = other.rolls;
            camera = other.camera;
            cameraRoll = other.cameraRoll;
            bought = other.bought;
            exposed = other.exposed;
            waste = other.waste;
            paid = other.paid;
            System.arraycopy(other.laws, 0, laws, 0, LAWS);
            System.arraycopy(other.canKind, 0, canKind, 0, CANS);
            System.arraycopy(other.canFeet, 0, canFeet, 0, CANS);
            System.arraycopy(other.canPlace, 0, canPlace, 0, CANS);
            System.arraycopy(other.canShort, 0, canShort, 0, CANS);
            System.arraycopy(other.takeKind, 0, takeKind, 0, TAKES);
            System.arraycopy(other.takeFeet, 0, takeFeet, 0, TAKES);
            System.arraycopy(other.takeCan, 0, takeCan, 0, TAKES);
            System.arraycopy(other.rollCan, 0, rollCan, 0, ROLLS);
            System.arraycopy(other.rollFeet, 0, rollFeet, 0, ROLLS);
            System.arraycopy(other.rollFamily, 0, rollFamily, 0, ROLLS);
        }

        boolean hasCan(int can) {
            return can >= 0 && can < cans;
        }

        boolean hasTake(int take) {
            return take >= 0 && take < takes;
        }

        boolean isOpen(int take) {
            return takeCan[take] == NONE;
        }

        boolean isRoom(int can) {
            return canPlace[can] != SPENT;
        }

        boolean serves(int can, int take) {
            return Kinds.isOf(canKind[can], takeKind[take]);
        }

        int leadOf(int can) {
            return Kinds.leadOf(canKind[can], laws[LEADER]);
        }

        int leastKeptOf(int can) {
            return Kinds.leastKept(canKind[can], laws[KEEP]);
        }

        int openTakes() {
            return takesShotOn(NONE);
        }

        int takesShotOn(int can) {
            int set = 0;
            for (int take = 0; take < takes; take++) {
                if (takeCan[take] == can) {
                    set |= 1 << take;
                }
            }
            return set;
        }

        int takesServedBy(int kind) {
            int set = 0;
            for (int take = 0; take < takes; take++) {
                if (Kinds.isOf(kind, takeKind[take])) {
                    set |= 1 << take;
                }
            }
            return set;
        }

        int cansThatServe(int take) {
            int set = 0;
            for (int can = 0; can < cans; can++) {
                if (serves(can, take)) {
                    set |= 1 << can;
                }
            }
            return set;
        }

        int rooms() {
            int set = 0;
            for (int can = 0; can < cans; can++) {
                if (isRoom(can)) {
                    set |= 1 << can;
                }
            }
            return set;
        }

        int feetOnShelf() {
            int feet = 0;
            for (int can = 0; can < cans; can++) {
                if (canPlace[can] == SHELF) {
                    feet += canFeet[can];
                }
            }
            return feet;
        }

        int feetThatWait() {
            int feet = 0;
            for (int roll = 0; roll < rolls; roll++) {
                feet += rollFeet[roll];
            }
            return feet;
        }

        /** Answers the number of the new can; NONE if there is no room for it. */
        int addCan(int kind, int feet) {
            if (cans >= CANS) {
                return NONE;
            }
            int can = cans;
            canKind[can] = kind;
            canFeet[can] = feet;
            canPlace[can] = SHELF;
            canShort[can] = 0;
            bought += feet;
            cans++;
            return can;
        }

        /** Answers the number of the new take; NONE if there is no room for it. */
        int addTake(int kind, int feet) {
            if (takes >= TAKES) {
                return NONE;
            }
            int take = takes;
            takeKind[take] = kind;
            takeFeet[take] = feet;
            takeCan[take] = NONE;
            takes++;
            return take;
        }

        void thread(int can) {
            int lead = leadOf(can);
            canPlace[can] = CAMERA;
            canFeet[can] -= lead;
            waste += lead;
            camera = can;
            cameraRoll = 0;
        }

        void expose(int can, int take) {
            int feet = takeFeet[take];
            int slate = Kinds.slateOf(canKind[can]);
            canFeet[can] -= feet + slate;
            exposed += feet;
            waste += slate;
            cameraRoll += feet;
            takeCan[take] = can;
        }

        void takeOut(int can) {
            if (cameraRoll > 0 && rolls < ROLLS) {
                rollCan[rolls] = can;
                rollFeet[rolls] = cameraRoll;
                rollFamily[rolls] = Kinds.familyOf(canKind[can]);
                rolls++;
            }
            cameraRoll = 0;
            camera = NONE;
            if (Kinds.isKept(canFeet[can], leastKeptOf(can))) {
                canPlace[can] = SHELF;
                canShort[can] = 1;
            } else {
                waste += canFeet[can];
                canFeet[can] = 0;
                canPlace[can] = SPENT;
            }
        }

        void develop(int batches) {
            paid += laws[FEE] * batches + feetThatWait();
            rolls = 0;
        }

        void reopen(int take) {
            exposed -= takeFeet[take];
            waste += takeFeet[take];
            takeCan[take] = NONE;
        }
    }

    /** The days ahead of the latest acts, in a ring, so that the oldest makes way for the newest. */
    private static final class History {
        private final Day[] ring = new Day[ACTS];
        private int next;
        int kept;

        History() {
            for (int i = 0; i < ACTS; i++) {
                ring[i] = new Day();
            }
        }

        void keep(Day day) {
            ring[next].copyFrom(day);
            next = next + 1 < ACTS ? next + 1 : 0;
            kept = Math.min(kept + 1, ACTS);
        }

        boolean stepBack(Day day) {
            if (kept == 0) {
                return false;
            }
            next = next > 0 ? next - 1 : ACTS - 1;
            kept--;
            day.copyFrom(ring[next]);
            return true;
        }

        void forget() {
            kept = 0;
        }
    }

    /** How rolls that wait go into batches. */
    private static final class Laboratory {
        private final int[] batchFeet = new int[ROLLS];
        private final int[] batchFamily = new int[ROLLS];
        private final int[] feetOf = new int[ROLL_SETS];
        private final int[] fewest = new int[ROLL_SETS];

        int byLab(Day day) {
            int batches = 0;
            for (int roll = 0; roll < day.rolls; roll++) {
                int batch = firstWithRoom(day, roll, batches);
                if (batch == batches) {
                    batchFeet[batch] = 0;
                    batchFamily[batch] = day.rollFamily[roll];
                    batches++;
                }
                batchFeet[batch] += day.rollFeet[roll];
            }
            return batches;
        }

        private int firstWithRoom(Day day, int roll, int batches) {
            for (int batch = 0; batch < batches; batch++) {
                if (batchFamily[batch] == day.rollFamily[roll]
                        && batchFeet[batch] + day.rollFeet[roll] <= day.laws[BATCH]) {
                    return batch;
                }
            }
            return batches;
        }

        int leastBatches(Day day) {
            sumUp(day);
            int reversal = reversalRolls(day);
            int all = (1 << day.rolls) - 1;
            fewest[0] = 0;
            for (int set = 1; set <= all; set++) {
                fewest[set] = leastOf(set, reversal, day.laws[BATCH]);
            }
            return fewest[all];
        }

        /** The first roll of the set lies in some batch: each batch that it can be in is tried. */
        private int leastOf(int set, int reversal, int batch) {
            int first = set & -set;
            int others = set ^ first;
            int least = 1 + fewest[others];
            for (int some = others; some > 0; some = (some - 1) & others) {
                int together = some | first;
                int strange = together & reversal;
                boolean oneFamily = strange == 0 || strange == together;
                if (oneFamily && feetOf[together] <= batch) {
                    least = Math.min(least, 1 + fewest[set ^ together]);
                }
            }
            return least;
        }

        private void sumUp(Day day) {
            feetOf[0] = 0;
            for (int roll = 0; roll < day.rolls; roll++) {
                int bit = 1 << roll;
                for (int set = 0; set < bit; set++) {
                    feetOf[set | bit] = feetOf[set] + day.rollFeet[roll];
                }
            }
        }

        private int reversalRolls(Day day) {
            int set = 0;
            for (int roll = 0; roll < day.rolls; roll++) {
                if (day.rollFamily[roll] == 1) {
                    set |= 1 << roll;
                }
            }
            return set;
        }
    }

    /** What each room has for open takes, looked at once a call; and takes put on rooms. */
    private static final class Rooms {
        /** Bits of cans that are rooms, bits of open takes. */
        int there, open;
        private final int[] feet = new int[CANS];
        private final int[] lead = new int[CANS];
        private final int[] slate = new int[CANS];
        /** The least end that is kept; more than any can has, if none is. */
        private final int[] keptFrom = new int[CANS];
        /** Open takes that a room serves; a can that is no room serves none. */
        final int[] serves = new int[CANS];
        private final int[] takeFeet = new int[TAKES];
        /** Of each set of takes the feet of all together. */
        final int[] feetOf = new int[TAKE_SETS];
        /** Of each can and each set of takes what would be left: NONE, if it does not serve all; less than 0, if it is too small. */
        final int[][] ends = new int[CANS][TAKE_SETS];
        /** The takes that were put on each can. */
        final int[] sets = new int[CANS];

        void lookAt(Day day) {
            there = day.rooms();
            open = day.openTakes();
            for (int can = 0; can < CANS; can++) {
                lookAtCan(day, can);
            }
            for (int take = 0; take < TAKES; take++) {
                takeFeet[take] = isOpen(take) ? day.takeFeet[take] : 0;
            }
            measure();
        }

        private void lookAtCan(Day day, int can) {
            serves[can] = 0;
            if (has(can)) {
                int kind = day.canKind[can];
                int least = Kinds.leastKept(kind, day.laws[KEEP]);
                feet[can] = day.canFeet[can];
                lead[can] = can == day.camera ? 0 : Kinds.leadOf(kind, day.laws[LEADER]);
                slate[can] = Kinds.slateOf(kind);
                keptFrom[can] = least == NONE ? CAN_FEET_MOST + 1 : least;
                serves[can] = open & day.takesServedBy(kind);
            }
        }

        /** By x one open take gets another length. */
        void drawLength(long x) {
            int many = Integer.bitCount(open);
            if (many == 0 || x < 0) {
                return;
            }
            int chosen = (int) (x % many);
            for (int take = 0; take < TAKES; take++) {
                if (isOpen(take)) {
                    if (chosen == 0) {
                        takeFeet[take] = 1 + (int) (x / 16 % 60);
                    }
                    chosen--;
                }
            }
            measure();
        }

        private void measure() {
            feetOf[0] = 0;
            for (int take = 0; take < TAKES; take++) {
                int bit = 1 << take;
                for (int set = 0; set < bit; set++) {
                    feetOf[set | bit] = feetOf[set] + takeFeet[take];
                }
            }
            for (int can = 0; can < CANS; can++) {
                Arrays.fill(ends[can], NONE);
                measureEnds(can);
            }
        }

        private void measureEnds(int can) {
            int served = serves[can];
            for (int set = served; set > 0; set = (set - 1) & served) {
                ends[can][set] = feet[can] - lead[can] - slate[can] * Integer.bitCount(set) - feetOf[set];
            }
        }

        boolean has(int can) {
            return (there >> can & 1) == 1;
        }

        private boolean isOpen(int take) {
            return (open >> take & 1) == 1;
        }

        /** Whether a can, by itself, can have all of a set that is not empty. */
        boolean holds(int can, int set) {
            return ends[can][set] >= 0;
        }

        /** Lead, slates and a thrown end are all feet of the room but those of takes and of a kept end. */
        int lossOf(int room, int set) {
            int end = ends[room][set];
            return feet[room] - feetOf[set] - (end >= keptFrom[room] ? end : 0);
        }

        int losses() {
            int losses = 0;
            for (int can = 0; can < CANS; can++) {
                if (sets[can] != 0) {
                    losses += lossOf(can, sets[can]);
                }
            }
            return losses;
        }

        int used() {
            int used = 0;
            for (int can = 0; can < CANS; can++) {
                if (sets[can] != 0) {
                    used++;
                }
            }
            return used;
        }

        /** Puts open takes, rising, each on the first can that can have it, or on that where the fewest feet are left. */
        boolean placeRising(boolean tightest) {
            Arrays.fill(sets, 0);
            for (int take = 0; take < TAKES; take++) {
                if (isOpen(take)) {
                    int can = tightest ? tightestFor(1 << take) : firstFor(1 << take);
                    if (can == NONE) {
                        return false;
                    }
                    sets[can] |= 1 << take;
                }
            }
            return true;
        }

        private int firstFor(int bit) {
            for (int can = 0; can < CANS; can++) {
                if (holds(can, sets[can] | bit)) {
                    return can;
                }
            }
            return NONE;
        }

        private int tightestFor(int bit) {
            int chosen = NONE;
            int fewest = CAN_FEET_MOST + 1;
            for (int can = 0; can < CANS; can++) {
                int left = ends[can][sets[can] | bit];
                if (left >= 0 && left < fewest) {
                    fewest = left;
                    chosen = can;
                }
            }
            return chosen;
        }
    }

    /** The best way to place all open takes. */
    private static final class Best {
        /** A loss counts so much more than a room that rooms decide only among equal losses. */
        private static final int LOSS_WEIGHT = 16;
        private static final int NEVER = 1000000;
        /** Row r: of each set of takes the least price at which the cans behind can r have it. */
        private final int[][] behind = new int[CANS][TAKE_SETS];

        /** Puts the best way into the sets of the rooms; false if there is no way. */
        boolean place(Rooms rooms) {
            int last = CANS - 1;
            Arrays.fill(behind[last], NEVER);
            behind[last][0] = 0;
            int served = 0;
            for (int can = last; can > 0; can--) {
                System.arraycopy(behind[can], 0, behind[can - 1], 0, TAKE_SETS);
                admit(rooms, can, served);
                served |= rooms.serves[can];
            }
            return choose(rooms);
        }

        /** Only takes that some can behind this one serves can be left to those. */
        private void admit(Rooms rooms, int can, int served) {
            int own = rooms.serves[can];
            for (int set = own; set > 0; set = (set - 1) & own) {
                if (rooms.holds(can, set)) {
                    spread(can, set, priceOf(rooms, can, set), served & ~set);
                }
            }
        }

        private void spread(int can, int set, int price, int others) {
            int[] without = behind[can];
            int[] with = behind[can - 1];
            with[set] = Math.min(with[set], price);
            for (int rest = others; rest > 0; rest = (rest - 1) & others) {
                int both = price + without[rest];
                if (both < with[set | rest]) {
                    with[set | rest] = both;
                }
            }
        }

        private boolean choose(Rooms rooms) {
            int rest = rooms.open;
            for (int can = 0; can < CANS; can++) {
                int set = cheapestSet(rooms, can, rest);
                if (set == NONE) {
                    return false;
                }
                rooms.sets[can] = set;
                rest &= ~set;
            }
            return true;
        }

        /** Sets are tried rising, so that of several at the least price the least is taken. */
        private int cheapestSet(Rooms rooms, int can, int rest) {
            int least = behind[can][rest];
            int chosen = least < NEVER ? 0 : NONE;
            for (int set = 1; set <= rest; set++) {
                if ((set & ~rest) == 0 && rooms.holds(can, set)) {
                    int price = priceOf(rooms, can, set) + behind[can][rest ^ set];
                    if (price < least) {
                        least = price;
                        chosen = set;
                    }
                }
            }
            return chosen;
        }

        private static int priceOf(Rooms rooms, int can, int set) {
            return rooms.lossOf(can, set) * LOSS_WEIGHT + 1;
        }
    }

    /** Which sets of open takes can be placed on which sets of rooms. */
    private static final class Reach {
        /** Of each room the bits of all sets of rooms that are without it. */
        private static final long[] WITHOUT = {
            0x5555555555555555L, 0x3333333333333333L, 0x0f0f0f0f0f0f0f0fL,
            0x00ff00ff00ff00ffL, 0x0000ffff0000ffffL, 0x00000000ffffffffL
        };
        private static final int ALL = ROOM_SETS - 1;
        /** Six rooms have 64 sets, so one long tells of a set of takes all sets of rooms that it can be placed on. */
        private final long[] placed = new long[TAKE_SETS];
        /** Of each set of takes the rooms that hold all of it by themselves. */
        private final int[] holders = new int[TAKE_SETS];

        void work(Rooms rooms) {
            placed[0] = -1L;
            for (int set = 1; set <= rooms.open; set++) {
                if ((set & ~rooms.open) == 0) {
                    holders[set] = holdersOf(rooms, set);
                    placed[set] = roomSetsFor(set);
                }
            }
        }

        private int holdersOf(Rooms rooms, int set) {
            int bits = 0;
            for (int can = 0; can < CANS; can++) {
                if (rooms.holds(can, set)) {
                    bits |= 1 << can;
                }
            }
            return bits;
        }

        /** The first take of the set lies on some room: each set that can be there with it is tried. */
        private long roomSetsFor(int set) {
            int first = set & -set;
            int others = set ^ first;
            long found = withOneMore(placed[others], holders[first]);
            for (int some = others; some > 0; some = (some - 1) & others) {
                found |= withOneMore(placed[others ^ some], holders[some | first]);
            }
            return found;
        }

        /** Each of these sets of rooms with one more, of the holders, that it is without. */
        private long withOneMore(long roomSets, int oneOf) {
            long found = 0;
            if (roomSets != 0 && oneOf != 0) {
                for (int can = 0; can < CANS; can++) {
                    if ((oneOf >> can & 1) == 1) {
                        found |= (roomSets & WITHOUT[can]) << (1 << can);
                    }
                }
            }
            return found;
        }

        private boolean isPlaced(int takes, int roomSet) {
            return (placed[takes] >>> roomSet & 1L) == 1L;
        }

        boolean canPlaceAll(Rooms rooms) {
            return isPlaced(rooms.open, ALL);
        }

        int roomsNeeded(Rooms rooms) {
            int bits = 0;
            for (int can = 0; can < CANS; can++) {
                if (rooms.has(can) && !isPlaced(rooms.open, ALL ^ 1 << can)) {
                    bits |= 1 << can;
                }
            }
            return bits;
        }

        /** Of ten cases for each room: in how many of all together the open takes can be placed. */
        long casesAmongTens(Rooms rooms, int fog) {
            long cases = 0;
            for (int clear = 0; clear < ROOM_SETS; clear++) {
                if ((clear & ~rooms.there) == 0 && isPlaced(rooms.open, clear)) {
                    int many = Integer.bitCount(clear);
                    cases += power(10 - fog, many) * power(fog, Integer.bitCount(rooms.there) - many);
                }
            }
            return cases;
        }

        /** The most feet that can be left for a take, where all others have theirs; less than 1, if there is no place for it. */
        int longestOf(int take, Rooms rooms) {
            int bit = 1 << take;
            int others = rooms.open & ~bit;
            int most = 0;
            for (int can = 0; can < CANS; can++) {
                most = Math.max(most, longestOn(can, bit, others, rooms));
            }
            return most;
        }

        private int longestOn(int can, int bit, int others, Rooms rooms) {
            int most = 0;
            for (int set = 0; set <= others; set++) {
                if ((set & ~others) == 0 && isPlaced(others ^ set, ALL ^ 1 << can)) {
                    // Where the can does not serve them all, the end is NONE, and so far below 1 with the take's feet, too.
                    most = Math.max(most, rooms.ends[can][set | bit] + rooms.feetOf[bit]);
                }
            }
            return most;
        }

        /** The least feet of one can more for what the others do not have; more than a can may have, if none would do. */
        int leastRest(Rooms rooms, int served, int lead, int slate) {
            int least = CAN_FEET_MOST + 1;
            for (int set = 1; set <= rooms.open; set++) {
                if ((set & ~(rooms.open & served)) == 0 && isPlaced(rooms.open ^ set, ALL)) {
                    int wanted = lead + slate * Integer.bitCount(set) + rooms.feetOf[set];
                    least = Math.min(least, wanted);
                }
            }
            return least;
        }
    }
}
