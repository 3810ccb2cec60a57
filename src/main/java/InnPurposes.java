import java.util.Arrays;

/** An inn where one pays with what one was about to do, as ../shared/DOC.md tells it. */
public final class InnPurposes {
    public static final int NONE = -1, BAD = -2, STATE = -3, FULL = -4;
    public static final long NO = Long.MIN_VALUE;

    private static final int NOTHING = -11, CAST = -12, PLACE = -13, SIZE = -14;
    private static final int NOT_SO = -5;
    /** Stands for NONE where an answer may be below 0. */
    private static final int NONE_BELOW = -10001;

    private static final int PURPOSES = 12, ALL = 4095, MOST_WEIGHT = 9, MOST_V = 9;
    private static final int GUESTS = 6, PARTS = 4, MOST_PART = 9, MOST_STORED = 99;
    private static final int KINDS = 7, LOVER = 1, GENERAL = 2, THIEF = 3, MAID = 4, CHILD = 5, TOLD = 6;
    private static final int[] ABOVE = {-1, 0, 0, 0, 1, 2, 3};

    private static final int HOUSES = 6, SIGNS = 100, MOST_SIGN = 127, CLAUSES = 10, DEEPEST = 4, KEEP = 3;
    private static final String LETTERS = "pkvxwn", RELATIONS = "<=>";
    /** More than the LETTERS, so that some bits of a step are always a place among them. */
    private static final int FACTS = 8;
    private static final int NOT = -1, AND = -2, OR = -3, SWAY = 1 << 20, LEAST_SWAY = SWAY - 99;
    /** A TEST as a step: its letter's place above a span: the first fact that holds and the end, 7 bits each. */
    private static final int SPAN_BITS = 14, HALF_BITS = 7, HALF = 127;

    private static final int LAST_NIGHT = 9999, NIGHTS = 60, DECOY_NIGHTS = 6, SEEN_NIGHTS = 12;
    /** What tempts depends on NIGHT modulo 10 and modulo 5 alone, so it comes again after ten nights. */
    private static final int ROUND = 10;
    private static final int SEEN_ROWS = 5, PLAN_ROWS = 10, BOOK_ROWS = 8, ROW_CELLS = 4;

    private static final int ACTS = 3, SLEEPS = 0, WAKES = 1, TELLS = 2, TRACE = 20, MOST_OPEN = 40;
    /** Three a KIND: its bodies of sleeps, wakes and tells (0: none of its own). */
    private static final int[] BODIES = {
        10, 11, 12,
        0, 20, 0,
        30, 0, 0,
        0, 0, 40,
        50, 51, 0,
        0, 0, 60,
        71, 70, 0};

    private static final int TAPES = 6, ITEMS = 60, SORTS = 5, EMPTY = -1;
    private static final int BYTES = 0, SHORTS = 1, INTS = 2, LONGS = 3;
    private static final int JUDGED_SHORT = 100;

    private final House bare = new House();
    private final Inn now = new Inn(bare);
    private final Inn image = new Inn(bare);
    private final Inn trial = new Inn(bare);
    private boolean imaged;
    private final Reader reader = new Reader();
    private final House[] houses = new House[HOUSES];
    private int houseCount;
    private final Lure[] lures = new Lure[GUESTS];
    private final Sight sight = new Sight();
    private final Ring ring = new Ring();
    private final Stage stage = new Stage();
    private final Tape[] tapes = new Tape[TAPES];

    public InnPurposes() {
        for (int i = 0; i < HOUSES; i++) {
            houses[i] = new House();
        }
        for (int i = 0; i < GUESTS; i++) {
            lures[i] = new Lure(now, now.guests[i]);
        }
        for (int i = 0; i < TAPES; i++) {
            tapes[i] = new Tape();
        }
    }

    // ---- guests, purposes, houses

    public int guest(int kind, int v, int means) {
        if (!isBelow(kind, KINDS)) {
            return NONE;
        }
        if (!isWithin(v, MOST_V) || !isWithin(means, ALL)) {
            return BAD;
        }
        if (now.guestCount >= GUESTS) {
            return FULL;
        }
        Guest guest = now.guests[now.guestCount];
        guest.come(kind, v, means);
        now.guestCount++;
        return guest.number;
    }

    public int of(int guest, int what) {
        if (!isGuest(guest)) {
            return NONE_BELOW;
        }
        Guest one = now.guests[guest];
        switch (what) {
            case 0: return one.kind;
            case 1: return one.v;
            case 2: return one.means;
            case 3: return one.lost;
            case 4: return one.in ? 1 : 0;
            case 5: return lureOf(one).prey(one.means, now.night);
            case 6: return nightsToEmpty(one);
            case 7: return backTo(one);
            default: return isPurpose(what - 10) ? lureOf(one).tempts(what - 10, now.night) : NONE_BELOW;
        }
    }

    public int set(int guest, int what, int purposes) {
        if (!isGuest(guest) || !isBelow(what, 2)) {
            return NONE;
        }
        if (!isWithin(purposes, ALL)) {
            return BAD;
        }
        Guest one = now.guests[guest];
        int was = what == 0 ? one.means : one.lost;
        if (what == 0) {
            one.means = purposes;
        } else {
            one.lost = purposes;
        }
        return was;
    }

    public int weight(int purpose, int n) {
        if (!isPurpose(purpose)) {
            return NONE;
        }
        if (!isWithin(n, MOST_WEIGHT)) {
            return BAD;
        }
        int was = now.weights[purpose];
        now.weights[purpose] = n;
        return was;
    }

    public int stay(int guest, boolean is) {
        if (!isGuest(guest)) {
            return NONE;
        }
        boolean was = now.guests[guest].in;
        now.guests[guest].in = is;
        return was ? 1 : 0;
    }

    public int redeem(int guest, int purpose) {
        if (!isGuest(guest) || !isPurpose(purpose)) {
            return NONE;
        }
        Guest one = now.guests[guest];
        if (!has(one.missed(), purpose) || now.cellar[purpose] <= 0) {
            return STATE;
        }
        one.means |= 1 << purpose;
        one.lost &= ~(1 << purpose);
        now.cellar[purpose]--;
        return now.cellar[purpose];
    }

    public int row(int guest, int part, int n) {
        if (!isGuest(guest) || !isBelow(part, PARTS)) {
            return NONE;
        }
        if (!isWithin(n, MOST_PART)) {
            return BAD;
        }
        Guest one = now.guests[guest];
        if (one.kind != TOLD) {
            return STATE;
        }
        int was = one.parts[part];
        one.parts[part] = n;
        return was;
    }

    public int feed(int sign) {
        if (!isWithin(sign, MOST_SIGN)) {
            return BAD;
        }
        return reader.takesIn(sign) ? reader.length : FULL;
    }

    public int house() {
        if (houseCount >= HOUSES) {
            return FULL;
        }
        House next = houses[houseCount];
        boolean stands = reader.builds(next);
        reader.length = 0;
        if (!stands) {
            return -10 - reader.at;
        }
        now.house = next;
        houseCount++;
        return houseCount - 1;
    }

    public int told(int what) {
        switch (what) {
            case 0: return now.night;
            case 1: return now.house.keep;
            case 2: return now.meantByAll();
            case 3: return ring.longest(now);
            case 4: return now.whoIsIn();
            default: break;
        }
        if (isPurpose(what - 10)) {
            return now.cellar[what - 10];
        }
        return isPurpose(what - 30) ? now.weights[what - 30] : NONE;
    }

    // ---- nights

    public int pass(int n) {
        if (!isWithin(n, NIGHTS)) {
            return BAD;
        }
        if (now.night + n > LAST_NIGHT) {
            return STATE;
        }
        settle(now);
        for (int i = 0; i < n; i++) {
            goNight(now);
        }
        return now.night;
    }

    public int on(int n, int what) {
        boolean ofGuest = isGuest(what - 30);
        boolean ofPurpose = isPurpose(what - 10);
        if (what != 0 && !ofPurpose && !ofGuest) {
            return NONE;
        }
        if (!isWithin(n, NIGHTS)) {
            return BAD;
        }
        Inn then = behind(n);
        if (ofGuest) {
            return then.guests[what - 30].means;
        }
        return ofPurpose ? then.cellar[what - 10] : then.meantByAll();
    }

    public int lasts(int guest, int purpose) {
        if (!isGuest(guest) || !isPurpose(purpose)) {
            return NONE;
        }
        Guest one = now.guests[guest];
        if (!has(one.means, purpose)) {
            return NOT_SO;
        }
        Lure lure = lureOf(one);
        int means = one.means;
        for (int n = 1; n <= NIGHTS; n++) {
            means = without(means, lure.prey(means, now.night + n - 1));
            if (!has(means, purpose)) {
                return n;
            }
        }
        return NOT_SO;
    }

    public int decoys(int guest, int purpose, int n) {
        if (!isGuest(guest) || !isPurpose(purpose)) {
            return NONE;
        }
        if (n < 1 || n > DECOY_NIGHTS) {
            return BAD;
        }
        Guest one = now.guests[guest];
        return has(one.means, purpose) ? fewestDecoys(one, purpose, n) : NOT_SO;
    }

    // ---- seen, odds

    public int see(int guest, int n, int purpose, boolean means) {
        if (guest == -1) {
            now.seen.count = 0;
            return 0;
        }
        if (!isGuest(guest) || !isPurpose(purpose)) {
            return NONE;
        }
        if (!isWithin(n, SEEN_NIGHTS)) {
            return BAD;
        }
        return now.seen.add(guest, n, purpose, means ? 1 : 0);
    }

    public int meant(int guest, int what) {
        if (!isGuest(guest) || !isBelow(what, 2)) {
            return NONE;
        }
        Lure lure = lureOf(now.guests[guest]);
        sight.gather(now.seen, guest);
        int many = 0;
        int least = NOT_SO;
        for (int means = ALL; means >= 0; means--) {
            if (sight.fits(lure, means, now.night)) {
                many++;
                least = means;
            }
        }
        return what == 0 ? many : least;
    }

    public int can(int guest, int what) {
        if (!isGuest(guest) || !isBelow(what, 2)) {
            return NONE;
        }
        Guest other = trial.guests[guest];
        other.become(now.guests[guest]);
        sight.gather(now.seen, guest);
        int many = 0;
        int least = NOT_SO;
        for (int v = MOST_V; v >= 0; v--) {
            other.v = v;
            if (sight.fits(lureOf(other), other.means, now.night)) {
                many++;
                least = v;
            }
        }
        return what == 0 ? many : least;
    }

    public long odds(int guest, int part) {
        if (!isGuest(guest) || !isBelow(part, 2)) {
            return NO;
        }
        Guest one = now.guests[guest];
        Lure lure = lureOf(one);
        int prey = lure.prey(one.means, now.night);
        int others = 0;
        for (int x = 0; x < PURPOSES; x++) {
            if (lure.prey(one.means | 1 << x, now.night) != prey) {
                others++;
            }
        }
        return lowest(others, PURPOSES, part);
    }

    public long mean(int n, int part) {
        if (!isWithin(n, NIGHTS) || !isBelow(part, 2) || now.guestCount == 0) {
            return NO;
        }
        return lowest(behind(n).meantByAll(), now.guestCount, part);
    }

    // ---- plans, books

    public int plan(int what, int guest) {
        if (what == -1) {
            now.plan.count = 0;
            return 0;
        }
        if (!isBelow(what, 4) || what != 0 && !isGuest(guest)) {
            return NONE;
        }
        return now.plan.add(what, guest, 0, 0);
    }

    public int ends(int what) {
        if (!isBelow(what, 2)) {
            return NONE;
        }
        trial.goOnFrom(now);
        settle(trial);
        for (int i = 0; i < now.plan.count; i++) {
            goRow(trial, now.plan.cells[i][0], now.plan.cells[i][1]);
        }
        return what == 0 ? trial.meantByAll() : trial.storedInAll();
    }

    public int book(int purpose, int often) {
        if (purpose == -1) {
            now.book.count = 0;
            return 0;
        }
        if (!isPurpose(purpose)) {
            return NONE;
        }
        if (!isWithin(often, MOST_STORED)) {
            return BAD;
        }
        return now.book.add(purpose, often, 0, 0);
    }

    public int looked() {
        for (int i = 0; i < now.book.count; i++) {
            int purpose = now.book.cells[i][0];
            if (isPurpose(purpose) && now.cellar[purpose] != now.book.cells[i][1]) {
                return i;
            }
        }
        return NOT_SO;
    }

    // ---- judging, the image, acts, tapes

    public int judge(int tape, int i) {
        if (!isBelow(tape, TAPES)) {
            return NONE;
        }
        Tape one = tapes[tape];
        if (one.sort != BYTES && one.sort != EMPTY) {
            return CAST;
        }
        int left = one.isPart(i, 0) ? one.length - i : 0;
        for (int x = 0; x < PURPOSES; x++) {
            if (x >= left) {
                return JUDGED_SHORT + x;
            }
            if (one.items[i + x] != now.cellar[x]) {
                return x;
            }
        }
        return NOT_SO;
    }

    public int image() {
        image.become(now);
        imaged = true;
        return now.guestCount;
    }

    public int undo() {
        if (!imaged) {
            return STATE;
        }
        now.become(image);
        return now.guestCount;
    }

    public int act(int guest, int act, int x) {
        if (!isGuest(guest) || !isBelow(act, ACTS)) {
            stage.ran = 0;
            return 0;
        }
        return stage.plays(now.guests[guest], act, x);
    }

    public int trace(int i) {
        return isBelow(i, Math.min(stage.ran, TRACE)) ? stage.bodies[i] : NONE;
    }

    public int taken(int guest, int k) {
        if (!isBelow(k, KINDS)) {
            return BAD;
        }
        if (!isGuest(guest)) {
            return NOTHING;
        }
        int kind = now.guests[guest].kind;
        return isUnder(kind, k) ? kind : CAST;
    }

    public int count(int what) {
        switch (what) {
            case 0: return now.guestCount;
            case 1: return houseCount;
            case 2: return now.seen.count;
            case 3: return now.plan.count;
            case 4: return now.book.count;
            case 5: return reader.length;
            case 6: return stage.ran;
            default: return BAD;
        }
    }

    public int tape(int tape, int sort, int n) {
        if (!isBelow(tape, TAPES)) {
            return NONE;
        }
        if (sort == EMPTY) {
            tapes[tape].become(EMPTY, 0);
            return 1;
        }
        if (!isBelow(sort, SORTS) || n > ITEMS) {
            return BAD;
        }
        if (n < 0) {
            return SIZE;
        }
        tapes[tape].become(sort, n);
        return 1;
    }

    public int item(int tape, int i, long v) {
        if (!isBelow(tape, TAPES)) {
            return NONE;
        }
        Tape one = tapes[tape];
        if (one.sort == EMPTY) {
            return NOTHING;
        }
        if (!one.isPart(i, 1)) {
            return PLACE;
        }
        one.items[i] = one.cut(v);
        return 1;
    }

    public long read(int tape, int i) {
        return isBelow(tape, TAPES) && tapes[tape].isPart(i, 1) ? tapes[tape].items[i] : NO;
    }

    public int shift(int tape, int i, int other, int j, int n) {
        if (!isBelow(tape, TAPES) || !isBelow(other, TAPES)) {
            return NONE;
        }
        Tape from = tapes[tape];
        Tape to = tapes[other];
        if (from.sort == EMPTY || to.sort == EMPTY) {
            return NOTHING;
        }
        if (from.sort != to.sort) {
            return CAST;
        }
        if (!from.isPart(i, n) || !to.isPart(j, n)) {
            return PLACE;
        }
        System.arraycopy(from.items, i, to.items, j, n);
        return n;
    }

    // ---- what the calls share

    private static boolean isBelow(int n, int end) {
        return n >= 0 && n < end;
    }

    private static boolean isWithin(int n, int most) {
        return n >= 0 && n <= most;
    }

    private static boolean isPurpose(int purpose) {
        return isBelow(purpose, PURPOSES);
    }

    private boolean isGuest(int guest) {
        return isBelow(guest, now.guestCount);
    }

    private static boolean has(int purposes, int purpose) {
        return (purposes >> purpose & 1) != 0;
    }

    private static int without(int purposes, int purpose) {
        return isPurpose(purpose) ? purposes & ~(1 << purpose) : purposes;
    }

    private static boolean isUnder(int kind, int k) {
        int at = kind;
        for (int i = 0; i < KINDS && isBelow(at, KINDS); i++) {
            if (at == k) {
                return true;
            }
            at = ABOVE[at];
        }
        return false;
    }

    /** What tempts a GUEST as all is now; ranked anew by each call, since any call may have changed it. */
    private Lure lureOf(Guest one) {
        Lure lure = lures[one.number];
        lure.settle(now, one);
        return lure;
    }

    private void settle(Inn inn) {
        for (int g = 0; g < inn.guestCount; g++) {
            lures[g].settle(inn, inn.guests[g]);
        }
    }

    /** The GUESTS may go one by one: what is taken of one changes nothing that tempts another. */
    private void goNight(Inn inn) {
        for (int g = 0; g < inn.guestCount; g++) {
            int prey = lures[g].prey(inn.guests[g].means, inn.night);
            if (isPurpose(prey)) {
                inn.take(inn.guests[g], prey);
            }
        }
        inn.night++;
        if (inn.house.keep > 0 && inn.night % inn.house.keep == 0) {
            inn.letGo();
        }
    }

    private Inn behind(int n) {
        trial.goOnFrom(now);
        settle(trial);
        for (int i = 0; i < n; i++) {
            goNight(trial);
        }
        return trial;
    }

    private void goRow(Inn inn, int what, int guest) {
        if (what == 0) {
            goNight(inn);
        } else if (isBelow(guest, inn.guestCount)) {
            Guest one = inn.guests[guest];
            if (what == 3) {
                one.means |= one.lost;
                one.lost = 0;
                // what is LOST tempts a MAID less, so what was ranked before is stale
                lures[guest].settle(inn, one);
            } else {
                one.in = what == 2;
            }
        }
    }

    private int nightsToEmpty(Guest one) {
        Lure lure = lureOf(one);
        int means = one.means;
        for (int n = 0; n <= NIGHTS; n++) {
            if (means == 0) {
                return n;
            }
            means = without(means, lure.prey(means, now.night + n));
        }
        return NOT_SO;
    }

    private int backTo(Guest one) {
        int there = now.inCellar();
        for (int g = 0; g < now.guestCount; g++) {
            there |= now.guests[g].means;
        }
        return there & one.missed();
    }

    private int fewestDecoys(Guest one, int purpose, int n) {
        Lure lure = lureOf(one);
        int best = NOT_SO;
        int fewest = PURPOSES + 1;
        for (int decoys = 0; decoys <= ALL; decoys++) {
            int many = Integer.bitCount(decoys);
            if ((decoys & one.means) == 0 && many < fewest && keeps(lure, one.means | decoys, purpose, n)) {
                best = decoys;
                fewest = many;
            }
        }
        return best;
    }

    private boolean keeps(Lure lure, int means, int purpose, int n) {
        int left = means;
        for (int i = 0; i < n && has(left, purpose); i++) {
            left = without(left, lure.prey(left, now.night + i));
        }
        return has(left, purpose);
    }

    private static long lowest(int above, int below, int part) {
        int a = above;
        int b = below;
        for (int i = 0; i <= below && b != 0; i++) {
            int rest = a % b;
            a = b;
            b = rest;
        }
        if (a == 0) {
            return NO;
        }
        return part == 0 ? above / a : below / a;
    }

    /** A GUEST; those of an inn are made once and come as they are called. */
    private static final class Guest {
        final int number;
        int kind;
        int v;
        int means;
        int lost;
        boolean in;
        final int[] parts = new int[PARTS];

        Guest(int number) {
            this.number = number;
        }

        void come(int kind, int v, int means) {
            this.kind = kind;
            this.v = v;
            this.means = means;
            lost = 0;
            in = true;
            Arrays.fill(parts, 0);
        }

        void become(Guest other) {
            kind = other.kind;
            v = other.v;
            means = other.means;
            lost = other.lost;
            in = other.in;
            System.arraycopy(other.parts, 0, parts, 0, PARTS);
        }

        int missed() {
            return lost & ~means;
        }
    }

    /** Rows told by hand, up to a number of them. */
    private static final class Rows {
        final int[][] cells;
        int count;

        Rows(int most) {
            cells = new int[most][ROW_CELLS];
        }

        int add(int a, int b, int c, int d) {
            if (count >= cells.length) {
                return FULL;
            }
            int[] next = cells[count];
            next[0] = a;
            next[1] = b;
            next[2] = c;
            next[3] = d;
            count++;
            return count;
        }

        void become(Rows other) {
            count = Math.min(other.count, cells.length);
            for (int i = 0; i < count; i++) {
                System.arraycopy(other.cells[i], 0, cells[i], 0, ROW_CELLS);
            }
        }
    }

    /** All that THE IMAGE keeps. */
    private static final class Inn {
        final int[] weights = new int[PURPOSES];
        final int[] cellar = new int[PURPOSES];
        final Guest[] guests = new Guest[GUESTS];
        int guestCount;
        int night;
        House house;
        final Rows seen = new Rows(SEEN_ROWS);
        final Rows plan = new Rows(PLAN_ROWS);
        final Rows book = new Rows(BOOK_ROWS);

        Inn(House house) {
            this.house = house;
            for (int x = 0; x < PURPOSES; x++) {
                weights[x] = x % 10;
            }
            for (int g = 0; g < GUESTS; g++) {
                guests[g] = new Guest(g);
            }
        }

        void become(Inn other) {
            goOnFrom(other);
            seen.become(other.seen);
            plan.become(other.plan);
            book.become(other.book);
        }

        /** As become, but for the rows told by hand, which no night needs. */
        void goOnFrom(Inn other) {
            System.arraycopy(other.weights, 0, weights, 0, PURPOSES);
            System.arraycopy(other.cellar, 0, cellar, 0, PURPOSES);
            guestCount = other.guestCount;
            for (int g = 0; g < guestCount; g++) {
                guests[g].become(other.guests[g]);
            }
            night = other.night;
            house = other.house;
        }

        void take(Guest guest, int purpose) {
            guest.means &= ~(1 << purpose);
            guest.lost |= 1 << purpose;
            cellar[purpose] = Math.min(cellar[purpose] + 1, MOST_STORED);
        }

        void letGo() {
            for (int x = 0; x < PURPOSES; x++) {
                cellar[x] = Math.max(cellar[x] - 1, 0);
            }
        }

        int meantByAll() {
            int many = 0;
            for (int g = 0; g < guestCount; g++) {
                many += Integer.bitCount(guests[g].means);
            }
            return many;
        }

        int whoIsIn() {
            int who = 0;
            for (int g = 0; g < guestCount; g++) {
                who |= guests[g].in ? 1 << g : 0;
            }
            return who;
        }

        int inCellar() {
            int there = 0;
            for (int x = 0; x < PURPOSES; x++) {
                there |= cellar[x] > 0 ? 1 << x : 0;
            }
            return there;
        }

        int storedInAll() {
            int many = 0;
            for (int x = 0; x < PURPOSES; x++) {
                many += cellar[x];
            }
            return many;
        }
    }

    /** A HOUSE: its KEEP, and its other CLAUSES as one row of steps, each expression ahead of what joins it. */
    private static final class House {
        int keep = KEEP;
        private final int[] steps = new int[SIGNS];
        private int stepCount;

        void clear() {
            keep = KEEP;
            stepCount = 0;
        }

        /** There are fewer steps than signs in THE TEXT, so none is ever refused. */
        void add(int step) {
            if (stepCount < SIGNS) {
                steps[stepCount] = step;
                stepCount++;
            }
        }

        /** What fancy and leave come to, by the facts that LETTERS name. Open answers are bits, the newest lowest. */
        int sway(int[] facts) {
            int sum = 0;
            int open = 0;
            for (int i = 0; i < stepCount; i++) {
                int step = steps[i];
                if (step >= LEAST_SWAY) {
                    sum += (open & 1) == 1 ? step - SWAY : 0;
                    open = 0;
                } else if (step >= 0) {
                    int fact = facts[step >> SPAN_BITS & FACTS - 1];
                    boolean holds = fact >= (step >> HALF_BITS & HALF) && fact < (step & HALF);
                    open = open << 1 | (holds ? 1 : 0);
                } else if (step == NOT) {
                    open ^= 1;
                } else {
                    int newest = open & 1;
                    open >>>= 1;
                    open = step == AND ? open & (newest | ~1) : open | newest;
                }
            }
            return sum;
        }
    }

    /** THE TEXT, and how a HOUSE is read from it. Where reading stops, at is the FAULT. */
    private static final class Reader {
        private final int[] signs = new int[SIGNS];
        int length;
        int at;

        boolean takesIn(int sign) {
            if (length >= SIGNS) {
                return false;
            }
            signs[length] = sign;
            length++;
            return true;
        }

        boolean builds(House house) {
            house.clear();
            at = 0;
            for (int clause = 1; clause <= CLAUSES; clause++) {
                if (!readsClause(house)) {
                    return false;
                }
                if (at == length) {
                    return true;
                }
                if (clause == CLAUSES || !takes(';')) {
                    return false;
                }
            }
            return false;
        }

        private boolean readsClause(House house) {
            int first = next();
            String word = first == 'f' ? "fancy " : first == 'l' ? "leave " : "keep ";
            for (int i = 0; i < word.length(); i++) {
                if (!takes(word.charAt(i))) {
                    return false;
                }
            }
            int n = readsNumber();
            if (n < 0) {
                return false;
            }
            if (first == 'k') {
                house.keep = n;
                return true;
            }
            if (!takes(' ') || !readsChoice(house, 0)) {
                return false;
            }
            house.add(first == 'f' ? SWAY + n : SWAY - n);
            return true;
        }

        /** E: an & is joined as soon as its right side stands, an | when no & goes on with that side. */
        private boolean readsChoice(House house, int depth) {
            boolean and = false;
            boolean or = false;
            for (int i = 0; i < SIGNS; i++) {
                if (!readsOne(house, depth)) {
                    return false;
                }
                if (and) {
                    house.add(AND);
                }
                and = next() == '&';
                if (!and) {
                    if (or) {
                        house.add(OR);
                    }
                    or = next() == '|';
                }
                if (!and && !or) {
                    return true;
                }
                at++;
            }
            return false;
        }

        private boolean readsOne(House house, int depth) {
            if (depth < DEEPEST && next() == '(') {
                at++;
                return readsChoice(house, depth + 1) && takes(')');
            }
            if (depth < DEEPEST && next() == '!') {
                at++;
                if (!readsOne(house, depth + 1)) {
                    return false;
                }
                house.add(NOT);
                return true;
            }
            return readsTest(house);
        }

        private boolean readsTest(House house) {
            int letter = readsAnyOf(LETTERS);
            if (letter < 0) {
                return false;
            }
            int relation = readsAnyOf(RELATIONS);
            if (relation < 0) {
                return false;
            }
            int n = readsNumber();
            if (n < 0) {
                return false;
            }
            int first = relation == 0 ? 0 : relation == 1 ? n : n + 1;
            int end = relation == 0 ? n : relation == 1 ? n + 1 : HALF;
            house.add(letter << SPAN_BITS | first << HALF_BITS | end);
            return true;
        }

        private int readsAnyOf(String some) {
            if (at >= length) {
                return -1;
            }
            int which = some.indexOf((char) signs[at]);
            at += which < 0 ? 0 : 1;
            return which;
        }

        private int readsNumber() {
            int n = -1;
            for (int i = 0; i < 2 && at < length && signs[at] >= '0' && signs[at] <= '9'; i++) {
                n = (n < 0 ? 0 : n * 10) + signs[at] - '0';
                at++;
            }
            return n;
        }

        private int next() {
            return at < length ? signs[at] : -1;
        }

        private boolean takes(char sign) {
            boolean is = next() == sign;
            at += is ? 1 : 0;
            return is;
        }
    }

    /** What tempts one GUEST, and what is taken of it first, ranked once for each of ten nights, when it is asked. */
    private static final class Lure {
        private Inn inn;
        private Guest guest;
        private final int[][] ranked = new int[ROUND][PURPOSES];
        private final int[] many = new int[ROUND];
        private final int[] strengths = new int[PURPOSES];
        private final int[] facts = new int[FACTS];

        Lure(Inn inn, Guest guest) {
            this.inn = inn;
            this.guest = guest;
            Arrays.fill(many, -1);
        }

        void settle(Inn inn, Guest guest) {
            this.inn = inn;
            this.guest = guest;
            Arrays.fill(many, -1);
        }

        int tempts(int purpose, int night) {
            int weight = inn.weights[purpose];
            learn(purpose, weight, night);
            int sum = 5 + 2 * weight + inn.house.sway(facts);
            int loved = purpose % 2 == 0 ? sum + guest.v : sum;
            int stolen = guest.v > weight ? 0 : sum;
            switch (guest.kind) {
                case LOVER: return loved;
                case GENERAL: return sum / 2;
                case THIEF: return stolen;
                case MAID: return has(guest.lost, purpose) ? loved - 10 : loved;
                case CHILD: return sum / 2 + night % 5;
                case TOLD: return stolen + guest.parts[purpose % PARTS];
                default: return sum;
            }
        }

        private void learn(int purpose, int weight, int night) {
            facts[0] = guest.number;
            facts[1] = guest.kind;
            facts[2] = guest.v;
            facts[3] = purpose;
            facts[4] = weight;
            facts[5] = night % 10;
        }

        /**
         * What is PREY, did it MEAN these. One ranking serves for all nights that go by: what it loses
         * in them it no more MEANS, so that the loss makes a MAID no other PREY.
         */
        int prey(int means, int night) {
            int turn = night % ROUND;
            if (!guest.in || turn < 0) {
                return NOT_SO;
            }
            if (many[turn] < 0) {
                rank(turn);
            }
            for (int i = 0; i < many[turn]; i++) {
                if (has(means, ranked[turn][i])) {
                    return ranked[turn][i];
                }
            }
            return NOT_SO;
        }

        private void rank(int turn) {
            int[] row = ranked[turn];
            int count = 0;
            for (int x = 0; x < PURPOSES; x++) {
                int strength = tempts(x, turn);
                if (strength > 0) {
                    int place = count;
                    for (; place > 0 && strengths[place - 1] < strength; place--) {
                        strengths[place] = strengths[place - 1];
                        row[place] = row[place - 1];
                    }
                    strengths[place] = strength;
                    row[place] = x;
                    count++;
                }
            }
            many[turn] = count;
        }
    }

    /** What is SEEN of one GUEST, night by night: what it must MEAN then, and what it must not. */
    private static final class Sight {
        private final int[] must = new int[SEEN_NIGHTS + 1];
        private final int[] mustNot = new int[SEEN_NIGHTS + 1];
        private int last;

        void gather(Rows seen, int guest) {
            Arrays.fill(must, 0);
            Arrays.fill(mustNot, 0);
            last = 0;
            for (int i = 0; i < seen.count; i++) {
                int[] cells = seen.cells[i];
                if (cells[0] == guest && isWithin(cells[1], SEEN_NIGHTS)) {
                    int[] which = cells[3] != 0 ? must : mustNot;
                    which[cells[1]] |= 1 << cells[2];
                    last = Math.max(last, cells[1]);
                }
            }
        }

        boolean fits(Lure lure, int means, int night) {
            int left = means;
            for (int n = 0; n <= last; n++) {
                if ((must[n] & ~left) != 0 || (mustNot[n] & left) != 0) {
                    return false;
                }
                left = without(left, lure.prey(left, night + n));
            }
            return true;
        }
    }

    /** The longest RING: from each first GUEST on, row by row, those that go through a set of later ones. */
    private static final class Ring {
        private final int[] gives = new int[GUESTS];
        /** For each set of GUESTS: who can be the last of a row through all of it. */
        private final int[] lasts = new int[1 << GUESTS];

        int longest(Inn inn) {
            for (int g = 0; g < inn.guestCount; g++) {
                gives[g] = takersOf(inn, inn.guests[g]);
            }
            int best = 0;
            for (int first = 0; first < inn.guestCount; first++) {
                best = Math.max(best, longestFrom(first, inn.guestCount));
            }
            return best;
        }

        private static int takersOf(Inn inn, Guest giver) {
            int takers = 0;
            for (int g = 0; g < inn.guestCount; g++) {
                takers |= (giver.means & inn.guests[g].missed()) != 0 ? 1 << g : 0;
            }
            return takers;
        }

        private int longestFrom(int first, int guests) {
            Arrays.fill(lasts, 0);
            lasts[1 << first] = 1 << first;
            int best = 0;
            for (int set = 1 << first; set < 1 << guests; set++) {
                for (int g = first; g < guests; g++) {
                    if (has(lasts[set], g)) {
                        goOn(set, gives[g] & ~set, first);
                        best = has(gives[g], first) ? Math.max(best, Integer.bitCount(set)) : best;
                    }
                }
            }
            return best;
        }

        private void goOn(int set, int takers, int first) {
            for (int g = first + 1; g < GUESTS; g++) {
                if (has(takers, g)) {
                    lasts[set | 1 << g] |= 1 << g;
                }
            }
        }
    }

    /** The ACTS, and THE TRACE of the latest one. */
    private static final class Stage {
        final int[] bodies = new int[TRACE];
        int ran;

        int plays(Guest guest, int act, int x) {
            ran = 0;
            return own(guest, act, x, 0);
        }

        private int own(Guest guest, int act, int x, int depth) {
            return runs(guest, guest.kind, act, x, depth);
        }

        /** The first body from a KIND on upward; what it calls of super goes on from above the KIND that has it. */
        private int runs(Guest guest, int kind, int act, int x, int depth) {
            int body = bodyFrom(kind, act);
            if (body == 0 || depth > MOST_OPEN) {
                return 0;
            }
            note(body);
            int above = ABOVE[body / 10 - 1];
            int next = depth + 1;
            switch (body) {
                case 10: return x + guest.number;
                case 11: return own(guest, SLEEPS, x, next) - guest.v;
                case 12: return own(guest, WAKES, x, next) * 2;
                case 20: return runs(guest, above, WAKES, x, next) ^ 6;
                case 30: return runs(guest, above, SLEEPS, x * 3, next);
                case 40: return runs(guest, above, TELLS, x, next) + own(guest, WAKES, 1, next);
                case 50: return -runs(guest, above, SLEEPS, x, next);
                case 51: return runs(guest, above, WAKES, x + 1, next);
                case 60: return runs(guest, above, TELLS, x - guest.number, next);
                case 70: return runs(guest, above, WAKES, x, next) + runs(guest, above, SLEEPS, 2, next);
                case 71: return runs(guest, above, SLEEPS, x, next) ^ guest.v;
                default: return 0;
            }
        }

        private static int bodyFrom(int kind, int act) {
            int at = kind;
            for (int i = 0; i < KINDS && isBelow(at, KINDS); i++) {
                if (BODIES[at * ACTS + act] != 0) {
                    return BODIES[at * ACTS + act];
                }
                at = ABOVE[at];
            }
            return 0;
        }

        private void note(int body) {
            if (ran < TRACE) {
                bodies[ran] = body;
            }
            ran++;
        }
    }

    /** A TAPE: its items are kept as longs, cut to what its sort holds. */
    private static final class Tape {
        int sort = EMPTY;
        int length;
        final long[] items = new long[ITEMS];

        void become(int sort, int length) {
            this.sort = sort;
            this.length = length;
            Arrays.fill(items, 0L);
        }

        /** Whether n items from i on are all there. */
        boolean isPart(int i, int n) {
            return i >= 0 && n >= 0 && n <= length && i <= length - n;
        }

        long cut(long v) {
            switch (sort) {
                case BYTES: return (byte) v;
                case SHORTS: return (short) v;
                case INTS: return (int) v;
                case LONGS: return v;
                default: return v != 0 ? 1 : 0;
            }
        }
    }
}
