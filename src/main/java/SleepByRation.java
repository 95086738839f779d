import java.util.Arrays;

/**
 * A fortress in which sleep is had by ration. What each call promises stands in the document
 * (../shared/DOC.md); the comments here only tell why a thing is done as it is.
 */
public final class SleepByRation {
    public static final int UNKNOWN = -1, BAD = -2, LATE = -3, FULL = -4, NONE = -9;

    private static final int MOST_GUARDS = 5;
    private static final int MOST_BYTES = 48;
    private static final int MOST_WRITTEN = 8;
    private static final int MOST_STAMPS = 9;
    private static final int MOST_OWED = 9;
    private static final int MOST_TIRED = 99;
    // How much more or less tired one is behind a quarter, or a drum.
    private static final int RESTED = 4;
    private static final int DOZED = 1;
    private static final int WATCHED = 2;
    private static final int DRUMMED = 3;
    private static final int WAKES_BELOW = 4;
    private static final int MOST_ACTS = 12;
    private static final int MOST_USES = 12;
    private static final int HIGHEST_NUMBER = 99;
    private static final int HIGHEST_HOUR = 99;
    private static final int PLAN_SETS = 4;
    private static final int HOURS_AHEAD = 8;
    private static final int SLOTS = 2;
    private static final int ROTA_QUARTERS = 4;
    private static final int ROTA_GUARDS = 4;
    private static final int NOD_QUARTERS = 99;
    private static final int CHANCE_QUARTERS = 3;
    private static final int TENTHS = 10;
    // Euclid's way needs some 75 steps for numbers of 15 figures.
    private static final int DIVISOR_STEPS = 100;

    private final Text text;
    private final Reader reader;
    private final Charter charter;
    private final Roll now;
    private final Roll trial;
    private final int[] planned;
    private final Acts acts;
    private final RotaSearch search;
    private final Book book;
    private final Slot[] slots;

    public SleepByRation() {
        text = new Text();
        reader = new Reader(text);
        charter = new Charter();
        now = new Roll(charter);
        trial = new Roll(charter);
        planned = new int[PLAN_SETS];
        acts = new Acts(charter);
        search = new RotaSearch(charter);
        book = new Book();
        slots = new Slot[SLOTS];
        for (int s = 0; s < SLOTS; s++) {
            slots[s] = new Slot(charter);
        }
    }

    // ---- the fortress

    public int write(int n, long v) {
        if (n < 1 || n > MOST_WRITTEN) {
            return BAD;
        }
        if (n > MOST_BYTES - text.length) {
            return FULL;
        }
        text.append(n, v);
        return text.length;
    }

    public int wipe() {
        int was = text.length;
        text.length = 0;
        return was;
    }

    public int fault() {
        return reader.read();
    }

    public int fortress() {
        if (reader.read() != NONE) {
            return LATE;
        }
        charter.copyFrom(reader.charter);
        now.copyFrom(reader.roll);
        Arrays.fill(planned, 0);
        acts.count = 0;
        search.forget();
        for (int s = 0; s < SLOTS; s++) {
            slots[s].filled = false;
        }
        return charter.guards;
    }

    public int about(int what) {
        switch (what) {
            case 0: return charter.guards;
            case 1: return charter.beds;
            case 2: return charter.limit;
            case 3: return now.quarters;
            case 4: return now.blind;
            case 5: return now.nodding;
            case 6: return now.ill;
            case 7: return now.tiredOfAll();
            case 8: return acts.count;
            case 9: return book.uses;
            case 10: return text.length;
            default: return BAD;
        }
    }

    public int guard(int guard, int what) {
        if (!charter.has(guard)) {
            return UNKNOWN;
        }
        switch (what) {
            case 0: return now.tired[guard];
            case 1: return now.stamps[guard];
            case 2: return now.owed[guard];
            case 3: return (now.nodding >> guard) & 1;
            case 4: return (now.ill >> guard) & 1;
            case 5: return charter.twin[guard];
            case 6: return now.bedded[guard];
            default: return BAD;
        }
    }

    public int sick(int guard, boolean is) {
        if (!charter.has(guard)) {
            return UNKNOWN;
        }
        int before = now.ill;
        now.ill = is ? before | (1 << guard) : before & ~(1 << guard);
        return now.ill == before ? 0 : 1;
    }

    public int hand(int guard, int other, int n) {
        if (!charter.has(guard) || !charter.has(other)) {
            return UNKNOWN;
        }
        if (guard == other || n < 1 || n > MOST_STAMPS) {
            return BAD;
        }
        if (now.stamps[guard] < n) {
            return LATE;
        }
        if (now.stamps[other] + n > MOST_STAMPS) {
            return FULL;
        }
        now.stamps[guard] -= n;
        now.stamps[other] += n;
        return now.stamps[other];
    }

    public int pay(int guard, int n) {
        if (!charter.has(guard)) {
            return UNKNOWN;
        }
        if (n < 1 || n > MOST_STAMPS) {
            return BAD;
        }
        if (now.stamps[guard] < n || now.owed[guard] < n) {
            return LATE;
        }
        now.stamps[guard] -= n;
        now.owed[guard] -= n;
        return now.owed[guard];
    }

    // ---- acts

    public int may(int beds) {
        if (!charter.hasAll(beds)) {
            return BAD;
        }
        return now.allows(beds) ? 1 : 0;
    }

    public int quarter(int beds) {
        if (!charter.hasAll(beds)) {
            return BAD;
        }
        if (!now.allows(beds)) {
            return LATE;
        }
        acts.push(now);
        return now.pass(beds);
    }

    public int drum() {
        acts.push(now);
        return now.wakeAll();
    }

    public int undo() {
        if (acts.count == 0) {
            return LATE;
        }
        acts.pop(now);
        return acts.count;
    }

    // ---- rotas

    public int rota(int n) {
        int refusal = rotaRefusal(n);
        if (refusal != 0) {
            return refusal;
        }
        search.run(now, n);
        return search.found ? search.least : NONE;
    }

    public int rotaAt(int n, int i) {
        int refusal = rotaRefusal(n);
        if (refusal != 0) {
            return refusal;
        }
        if (i < 0 || i >= n) {
            return NONE;
        }
        search.run(now, n);
        return search.found ? search.best[i] : NONE;
    }

    private int rotaRefusal(int n) {
        if (n < 1 || n > ROTA_QUARTERS) {
            return BAD;
        }
        return charter.guards > ROTA_GUARDS ? LATE : 0;
    }

    public int allNod() {
        int all = charter.everyone();
        trial.copyFrom(now);
        for (int q = 0; q <= NOD_QUARTERS; q++) {
            if (trial.nodding == all) {
                return q;
            }
            trial.pass(0);
        }
        return NONE;
    }

    public long chance(int n, int x, boolean upper) {
        if (n < 1 || n > CHANCE_QUARTERS || x < 0 || x > TENTHS) {
            return BAD;
        }
        // Five guards by three quarters: both stay at 10 to the 15th or below.
        long above = 1;
        long below = 1;
        for (int g = 0; g < charter.guards; g++) {
            long ways = 1;
            for (int q = 0; q < n; q++) {
                ways *= TENTHS;
            }
            above *= ways - now.waysAwake(g, n, x);
            below *= ways;
        }
        long divisor = greatestDivisor(above, below);
        if (divisor == 0) {
            return 0;
        }
        return upper ? above / divisor : below / divisor;
    }

    private static long greatestDivisor(long a, long b) {
        for (int step = 0; step < DIVISOR_STEPS && b != 0; step++) {
            long rest = a % b;
            a = b;
            b = rest;
        }
        return a;
    }

    public int plan(int i, int beds) {
        if (i < 0 || i >= PLAN_SETS || !charter.hasAll(beds)) {
            return BAD;
        }
        int was = planned[i];
        planned[i] = beds;
        return was;
    }

    public int weakest() {
        int fewest = MOST_GUARDS + 1;
        int first = 0;
        trial.copyFrom(now);
        for (int q = 0; q < HOURS_AHEAD; q++) {
            int told = planned[q % PLAN_SETS];
            int awake = Integer.bitCount(trial.pass(trial.allows(told) ? told : 0));
            if (awake < fewest) {
                fewest = awake;
                first = q;
            }
        }
        return first;
    }

    public int settled(boolean who) {
        int given = 0;
        int owing = 0;
        for (int g = 0; g < charter.guards; g++) {
            int own = Math.min(now.owed[g], now.stamps[g]);
            int lack = now.owed[g] - own;
            int help = Math.min(lack, now.spareOf(charter.twin[g]));
            given += own + help;
            if (help < lack) {
                owing |= 1 << g;
            }
        }
        return who ? owing : given;
    }

    // ---- the book

    public int use(int number, int guard, int quarter) {
        if (!charter.has(guard)) {
            return UNKNOWN;
        }
        if (number < 0 || number > HIGHEST_NUMBER || quarter < 0 || quarter > HIGHEST_HOUR) {
            return BAD;
        }
        if (book.uses >= MOST_USES) {
            return FULL;
        }
        book.add(number, guard, quarter);
        return book.uses;
    }

    public int burn() {
        int had = book.uses;
        book.uses = 0;
        return had;
    }

    public int forged() {
        int count = 0;
        for (int number = 0; number <= HIGHEST_NUMBER; number++) {
            if (book.isFalse(number, charter)) {
                count++;
            }
        }
        return count;
    }

    public int forgedAt(int i) {
        int ahead = 0;
        for (int number = 0; number <= HIGHEST_NUMBER; number++) {
            if (book.isFalse(number, charter)) {
                if (ahead == i) {
                    return number;
                }
                ahead++;
            }
        }
        return NONE;
    }

    public int forgers() {
        int users = 0;
        for (int u = 0; u < book.uses; u++) {
            if (book.isFalse(book.numbers[u], charter)) {
                users |= 1 << book.users[u];
            }
        }
        // The book outlives a fortress: some that used a stamp may be gone.
        return users & charter.everyone();
    }

    // ---- slots

    public int keep(int slot) {
        if (slot < 0 || slot >= SLOTS) {
            return UNKNOWN;
        }
        slots[slot].store(now, planned);
        return now.quarters;
    }

    public int again(int slot) {
        if (slot < 0 || slot >= SLOTS) {
            return UNKNOWN;
        }
        if (!slots[slot].filled) {
            return LATE;
        }
        slots[slot].restore(now, planned);
        acts.count = 0;
        return now.quarters;
    }

    /** The bytes that have been written. */
    private static final class Text {
        private final byte[] bytes = new byte[MOST_BYTES];
        private int length;

        private void append(int n, long v) {
            for (int i = n - 1; i >= 0 && length < MOST_BYTES; i--) {
                bytes[length] = (byte) (v >> (8 * i));
                length++;
            }
        }
    }

    /** What a fortress is told with and no call but a new fortress changes. */
    private static final class Charter {
        private final int[] twin = new int[MOST_GUARDS];
        private int guards;
        private int beds;
        private int limit;

        private Charter() {
            clear();
        }

        private void clear() {
            // All five, not only those told: the book may name guards of an earlier fortress.
            Arrays.fill(twin, NONE);
            guards = 0;
            beds = 0;
            limit = 1;
        }

        private void copyFrom(Charter from) {
            System.arraycopy(from.twin, 0, twin, 0, MOST_GUARDS);
            guards = from.guards;
            beds = from.beds;
            limit = from.limit;
        }

        private boolean has(int g) {
            return g >= 0 && g < guards;
        }

        private int everyone() {
            return (1 << guards) - 1;
        }

        private boolean hasAll(int set) {
            return (set & ~everyone()) == 0;
        }

        private int twinless() {
            int count = 0;
            for (int g = 0; g < guards; g++) {
                if (twin[g] == NONE) {
                    count++;
                }
            }
            return count;
        }
    }

    /** Reads a text into a draft of its own, so that a faulty text leaves the fortress alone. */
    private static final class Reader {
        private final Text text;
        private final Charter charter = new Charter();
        // No quarter ever passes in the draft, and each guard that is told is told whole: nothing is left to clear.
        private final Roll roll = new Roll(charter);
        private int at;
        private int wrongAt;

        private Reader(Text text) {
            this.text = text;
        }

        /** The place of the first fault; NONE, if the draft is a fortress. */
        private int read() {
            at = 0;
            wrongAt = NONE;
            charter.clear();
            readHead();
            for (int part = 0; part < MOST_BYTES && wrongAt == NONE && at < text.length; part++) {
                readPart();
            }
            return wrongAt;
        }

        private void readHead() {
            next('F', 'F');
            charter.beds = next('0', '5');
            int tens = next('0', '9');
            int ones = next(tens == 0 ? '1' : '0', '9');
            charter.limit = 10 * tens + (tens == 0 ? ones + 1 : ones);
        }

        private void readPart() {
            byte kind = text.bytes[at];
            if (kind == 'G' && charter.guards < MOST_GUARDS) {
                at++;
                readGuard();
            } else if (kind == 'T' && charter.twinless() >= 2) {
                at++;
                readTwins();
            } else {
                wrongAt = at;
            }
        }

        private void readGuard() {
            int g = charter.guards;
            int tens = next('0', '9');
            roll.tired[g] = 10 * tens + next('0', '9');
            roll.stamps[g] = next('0', '9');
            roll.owed[g] = next('0', '9');
            charter.guards = g + 1;
        }

        private void readTwins() {
            int one = nextTwin(NONE);
            int other = nextTwin(one);
            if (wrongAt == NONE) {
                charter.twin[one] = other;
                charter.twin[other] = one;
            }
        }

        private int nextTwin(int other) {
            int place = at;
            int g = next('0', '9');
            if (wrongAt == NONE && (!charter.has(g) || charter.twin[g] != NONE || g == other)) {
                wrongAt = place;
            }
            return g;
        }

        /** How far the next byte is above low; behind a fault nothing more is read. */
        private int next(char low, char high) {
            if (wrongAt != NONE) {
                return 0;
            }
            if (at >= text.length) {
                wrongAt = text.length;
                return 0;
            }
            byte b = text.bytes[at];
            if (b < low || b > high) {
                wrongAt = at;
                return 0;
            }
            at++;
            return b - low;
        }
    }

    /** How the guards are, and what the quarters have brought. */
    private static final class Roll {
        private final Charter charter;
        private final int[] tired = new int[MOST_GUARDS];
        private final int[] stamps = new int[MOST_GUARDS];
        private final int[] owed = new int[MOST_GUARDS];
        private final int[] bedded = new int[MOST_GUARDS];
        private int nodding;
        private int ill;
        private int quarters;
        private int blind;

        private Roll(Charter charter) {
            this.charter = charter;
        }

        private void copyFrom(Roll from) {
            System.arraycopy(from.tired, 0, tired, 0, MOST_GUARDS);
            System.arraycopy(from.stamps, 0, stamps, 0, MOST_GUARDS);
            System.arraycopy(from.owed, 0, owed, 0, MOST_GUARDS);
            System.arraycopy(from.bedded, 0, bedded, 0, MOST_GUARDS);
            nodding = from.nodding;
            ill = from.ill;
            quarters = from.quarters;
            blind = from.blind;
        }

        private int tiredOfAll() {
            int sum = 0;
            for (int g = 0; g < charter.guards; g++) {
                sum += tired[g];
            }
            return sum;
        }

        /** What no rota for so many quarters gets below: in each one loses 4 at most. */
        private int leastTiredBehind(int quartersLeft) {
            int sum = 0;
            for (int g = 0; g < charter.guards; g++) {
                sum += Math.max(0, tired[g] - RESTED * quartersLeft);
            }
            return sum;
        }

        /** Whether all that a rota hangs on is the same. */
        private boolean isLike(Roll other) {
            for (int g = 0; g < charter.guards; g++) {
                if (tired[g] != other.tired[g] || stamps[g] != other.stamps[g] || owed[g] != other.owed[g]) {
                    return false;
                }
            }
            return nodding == other.nodding && ill == other.ill;
        }

        private boolean allows(int inBed) {
            if (Integer.bitCount(inBed) > charter.beds) {
                return false;
            }
            int givers = giversOf(inBed);
            for (int g = 0; g < charter.guards; g++) {
                int bit = 1 << g;
                if ((givers & bit) != 0 && stamps[g] < 1) {
                    return false;
                }
                if ((inBed & ill & bit) != 0 && owed[g] >= MOST_OWED) {
                    return false;
                }
            }
            return true;
        }

        private int giversOf(int inBed) {
            int paying = inBed & ~ill;
            int givers = paying;
            for (int g = 0; g < charter.guards; g++) {
                int other = charter.twin[g];
                // Each pair once, from its lesser one.
                if (other > g && (paying >> g & paying >> other & 1) != 0) {
                    givers &= ~(1 << (stamps[other] > stamps[g] ? g : other));
                }
            }
            return givers;
        }

        /** A quarter that is allowed: who is awake behind it. */
        private int pass(int inBed) {
            int givers = giversOf(inBed);
            for (int g = 0; g < charter.guards; g++) {
                int bit = 1 << g;
                if ((inBed & bit) == 0) {
                    watch(g);
                } else {
                    rest(g, (givers & bit) != 0);
                }
            }
            int awake = charter.everyone() & ~inBed & ~nodding;
            quarters++;
            if (awake == 0) {
                blind++;
            }
            return awake;
        }

        private void rest(int g, boolean gives) {
            int bit = 1 << g;
            if ((ill & bit) != 0) {
                owed[g]++;
            } else if (gives) {
                stamps[g]--;
            }
            tired[g] = Math.max(0, tired[g] - RESTED);
            nodding &= ~bit;
            bedded[g]++;
        }

        private void watch(int g) {
            int bit = 1 << g;
            if ((nodding & bit) != 0) {
                tired[g] = Math.max(0, tired[g] - DOZED);
                if (tired[g] <= charter.limit - WAKES_BELOW) {
                    nodding &= ~bit;
                }
            } else {
                tired[g] = Math.min(MOST_TIRED, tired[g] + WATCHED);
                if (tired[g] >= charter.limit) {
                    nodding |= bit;
                }
            }
        }

        private int wakeAll() {
            for (int g = 0; g < charter.guards; g++) {
                if ((nodding >> g & 1) != 0) {
                    tired[g] = Math.min(MOST_TIRED, tired[g] + DRUMMED);
                }
            }
            int woken = Integer.bitCount(nodding);
            nodding = 0;
            return woken;
        }

        /** Of 10 to the n-th ways of chance those by which one is still awake behind n quarters. */
        private long waysAwake(int g, int n, int x) {
            if ((nodding >> g & 1) != 0) {
                return 0;
            }
            long ways = 1;
            for (int q = 1; q <= n; q++) {
                int then = tired[g] + WATCHED * q;
                if (then >= charter.limit) {
                    return 0;
                }
                ways *= 2 * then >= charter.limit ? TENTHS - x : TENTHS;
            }
            return ways;
        }

        /** The stamps that one has beyond what it owes; none, if there is no such one. */
        private int spareOf(int g) {
            return charter.has(g) ? Math.max(0, stamps[g] - owed[g]) : 0;
        }
    }

    /** How things were ahead of each act that can be undone. */
    private static final class Acts {
        private final Roll[] ahead = new Roll[MOST_ACTS];
        private int end;
        private int count;

        private Acts(Charter charter) {
            for (int i = 0; i < MOST_ACTS; i++) {
                ahead[i] = new Roll(charter);
            }
        }

        /** The row goes round: when it is full, the new act stands where the first one was. */
        private void push(Roll now) {
            ahead[end].copyFrom(now);
            end = (end + 1) % MOST_ACTS;
            count = Math.min(MOST_ACTS, count + 1);
        }

        private void pop(Roll now) {
            end = (end + MOST_ACTS - 1) % MOST_ACTS;
            count--;
            int ill = now.ill;
            now.copyFrom(ahead[end]);
            now.ill = ill;
        }
    }

    /** Looks for the best rota among all; its rows are made once and used for every search. */
    private static final class RotaSearch {
        private final Charter charter;
        private final Roll[] behind = new Roll[ROTA_QUARTERS + 1];
        private final int[] sets = new int[ROTA_QUARTERS];
        private final int[] best = new int[ROTA_QUARTERS];
        private int soughtFor;
        private int least;
        private boolean found;

        private RotaSearch(Charter charter) {
            this.charter = charter;
            for (int i = 0; i <= ROTA_QUARTERS; i++) {
                behind[i] = new Roll(charter);
            }
        }

        private void forget() {
            soughtFor = 0;
        }

        /** A rota is asked for quarter by quarter: it is sought anew only if something is otherwise. */
        private void run(Roll now, int n) {
            if (soughtFor == n && behind[0].isLike(now)) {
                return;
            }
            soughtFor = n;
            found = false;
            least = MOST_GUARDS * MOST_TIRED + 1;
            behind[0].copyFrom(now);
            seek(this, 0, n);
        }

        private static void seek(RotaSearch s, int depth, int n) {
            Roll here = s.behind[depth];
            int left = n - depth;
            // A rota that is only as good as the best comes behind it, so it is no better.
            if (here.leastTiredBehind(left) >= s.least) {
                return;
            }
            if (left <= 0 || depth >= ROTA_QUARTERS) {
                s.found = true;
                s.least = here.tiredOfAll();
                System.arraycopy(s.sets, 0, s.best, 0, ROTA_QUARTERS);
                return;
            }
            Roll next = s.behind[depth + 1];
            int all = s.charter.everyone();
            for (int set = 0; set <= all; set++) {
                if (here.allows(set)) {
                    next.copyFrom(here);
                    if (next.pass(set) != 0) {
                        s.sets[depth] = set;
                        seek(s, depth + 1, n);
                    }
                }
            }
        }
    }

    /** Uses of stamps in the order in which they came. */
    private static final class Book {
        private final int[] numbers = new int[MOST_USES];
        private final int[] users = new int[MOST_USES];
        private final int[] hours = new int[MOST_USES];
        private int uses;

        private void add(int number, int user, int hour) {
            if (uses < MOST_USES) {
                numbers[uses] = number;
                users[uses] = user;
                hours[uses] = hour;
                uses++;
            }
        }

        private boolean isFalse(int number, Charter charter) {
            for (int u = 0; u < uses; u++) {
                for (int v = 0; v < u && numbers[u] == number; v++) {
                    if (numbers[v] == number && clash(u, v, charter)) {
                        return true;
                    }
                }
            }
            return false;
        }

        private boolean clash(int u, int v, Charter charter) {
            // No one is its own twin, so one that uses a stamp twice clashes as well.
            return hours[u] != hours[v] || charter.twin[users[u]] != users[v];
        }
    }

    /** What is kept to go on from. */
    private static final class Slot {
        private final Roll roll;
        private final int[] sets = new int[PLAN_SETS];
        private boolean filled;

        private Slot(Charter charter) {
            roll = new Roll(charter);
        }

        private void store(Roll now, int[] planned) {
            roll.copyFrom(now);
            System.arraycopy(planned, 0, sets, 0, PLAN_SETS);
            filled = true;
        }

        private void restore(Roll now, int[] planned) {
            now.copyFrom(roll);
            System.arraycopy(sets, 0, planned, 0, PLAN_SETS);
        }
    }
}
