import java.util.Arrays;

/** Lamps of a feast hung over a town. What each call promises stands in DOC.md under its name. */
public final class LampFeast {
    private static final int LOW = -1000000000;
    private static final int BEYOND = LOW - 1;
    private static final int NONE = LOW - 2;
    private static final int STATE = LOW - 3;
    private static final int FULL = LOW - 4;
    private static final int KIND = LOW - 5;
    private static final int FINDINGS = 5;

    private static final int PLAIN = 0;
    private static final int WET = 1;
    private static final int SIGN = 2;

    private static final int CRATES = 12;
    private static final int STRINGS = 24;
    private static final int STREETS = 8;
    private static final int SHOPS = 8;

    private final int[] findings;
    private final Crates crates;
    private final Strings strings;
    private final Branches branches;
    private final FuseSearch fuseSearch;
    private final Nights nights;
    private final Bills bills;
    private final Waiting waiting;

    public LampFeast() {
        findings = new int[FINDINGS + 1];
        crates = new Crates();
        strings = new Strings();
        branches = new Branches(strings);
        fuseSearch = new FuseSearch(strings, branches);
        nights = new Nights(strings);
        bills = new Bills();
        waiting = new Waiting();
    }

    // ---- crates and strings

    public int crate(int lamps) {
        if (!within(lamps, 1, 1000)) {
            return finding(BEYOND);
        }
        if (crates.size >= CRATES) {
            return finding(FULL);
        }
        return crates.add(lamps);
    }

    public int string(int how, int up, int length, int wire, int lamps, int watt) {
        if (!isHow(how) || !isUp(how % 10, up) || !within(length, 1, 100) || !within(wire, 1, 10)
                || !within(lamps, 1, Strings.LAMPS) || !within(watt, 1, 20)) {
            return finding(BEYOND);
        }
        if (crates.allLeft() < lamps) {
            return finding(STATE);
        }
        if (strings.size >= STRINGS) {
            return finding(FULL);
        }
        int s = strings.add(how, up, length, wire, lamps, watt);
        for (int p = 0; p < lamps; p++) {
            strings.setCrateOf(s, p, crates.take());
        }
        nights.putLast(s);
        return s;
    }

    public int fuse(int s, int fuse) {
        if (!strings.has(s) || !within(fuse, 0, 60000)) {
            return finding(BEYOND);
        }
        int was = strings.fuse[s];
        strings.fuse[s] = fuse;
        return was;
    }

    public int dead(int s, int is) {
        if (!strings.has(s) || !within(is, 0, 1)) {
            return finding(BEYOND);
        }
        int was = bit(strings.dead[s]);
        if (is == 1) {
            strings.kill(s);
        } else {
            strings.dead[s] = false;
        }
        return was;
    }

    public int about(int s, int what) {
        if (!strings.has(s)) {
            return finding(BEYOND);
        }
        switch (what) {
            case 0: return strings.kind[s];
            case 1: return strings.up[s];
            case 2: return strings.street[s];
            case 3: return strings.length[s];
            case 4: return strings.wire[s];
            case 5: return strings.lamps[s];
            case 6: return strings.watt[s];
            case 7: return strings.fuse[s];
            case 8: return bit(strings.dead[s]);
            case 9: return bit(darkNow(s));
            default: return finding(BEYOND);
        }
    }

    public int as(int s, int kind) {
        if (!strings.has(s) || !within(kind, PLAIN, SIGN)) {
            return finding(BEYOND);
        }
        if (!strings.isOf(s, kind)) {
            return finding(KIND);
        }
        return strings.load(s);
    }

    public int told(int s, int what) {
        if (!strings.has(s) || !within(what, 0, 3)) {
            return finding(BEYOND);
        }
        branches.survey();
        switch (what) {
            case 0: return branches.current[s];
            case 1: return branches.worst[s];
            case 2: return branches.fall[s];
            default: return branches.wrong(s);
        }
    }

    public int most(int v) {
        if (!within(v, 0, 100000)) {
            return finding(BEYOND);
        }
        int was = branches.mostFall;
        branches.mostFall = v;
        return was;
    }

    public int blow() {
        return branches.blowFuses();
    }

    public int fewest(int what) {
        if (!within(what, 0, 1)) {
            return finding(BEYOND);
        }
        if (!fuseSearch.search()) {
            return finding(NONE);
        }
        return what == 0 ? fuseSearch.howMany() : fuseSearch.asBits();
    }

    public int fuses() {
        if (!fuseSearch.search()) {
            return finding(NONE);
        }
        fuseSearch.putFuses();
        return fuseSearch.howMany();
    }

    // ---- the dark

    public int explain(int dark) {
        if (dark < 0 || (dark >> strings.size) != 0) {
            return finding(BEYOND);
        }
        int topmost = 0;
        for (int s = 0; s < strings.size; s++) {
            boolean isAmong = hasBit(dark, s);
            boolean hangsOnOne = strings.up[s] >= 0 && hasBit(dark, strings.up[s]);
            if (hangsOnOne && !isAmong) {
                return finding(NONE);
            }
            if (isAmong && !hangsOnOne) {
                topmost |= 1 << s;
            }
        }
        return topmost;
    }

    public int look(int s, int p, int burns) {
        if (!strings.hasLamp(s, p) || !within(burns, 0, 1)) {
            return finding(BEYOND);
        }
        if (!strings.dead[s]) {
            return finding(STATE);
        }
        int first = burns == 1 ? Math.max(strings.first[s], p + 1) : strings.first[s];
        int last = burns == 0 ? Math.min(strings.last[s], p) : strings.last[s];
        if (first > last) {
            return finding(NONE);
        }
        strings.first[s] = first;
        strings.last[s] = last;
        return last - first + 1;
    }

    public int next(int s) {
        if (!strings.has(s)) {
            return finding(BEYOND);
        }
        if (!strings.dead[s]) {
            return finding(STATE);
        }
        if (strings.first[s] == strings.last[s]) {
            return finding(NONE);
        }
        return (strings.first[s] + strings.last[s]) / 2;
    }

    public int fault(int s, boolean last) {
        if (!strings.has(s)) {
            return finding(BEYOND);
        }
        if (!strings.dead[s]) {
            return finding(STATE);
        }
        return last ? strings.last[s] : strings.first[s];
    }

    // ---- nights

    public int crews(int crews, int hours) {
        if (!within(crews, 1, Nights.CREWS) || !within(hours, 1, 12)) {
            return finding(BEYOND);
        }
        nights.crews = crews;
        nights.hours = hours;
        return 1;
    }

    public int open(int street, int row) {
        if (!within(street, 0, STREETS - 1) || !within(row, 0, Nights.ALL_OPEN)) {
            return finding(BEYOND);
        }
        int was = nights.rows[street];
        nights.rows[street] = row;
        return was;
    }

    public int order(int s, int i) {
        if (!strings.has(s) || !strings.has(i)) {
            return finding(BEYOND);
        }
        return nights.move(s, i);
    }

    public int plan() {
        return nights.hangAll();
    }

    public int hung(int s, int what) {
        if (!strings.has(s) || !within(what, 0, 3)) {
            return finding(BEYOND);
        }
        nights.hangAll();
        switch (what) {
            case 0: return nights.nightOf[s];
            case 1: return nights.crewOf[s];
            case 2: return nights.placeOf(s);
            default: return strings.hours(s);
        }
    }

    public int best() {
        if (strings.size > Nights.BEST_STRINGS) {
            return finding(STATE);
        }
        return nights.takeBestOrder();
    }

    // ---- shares

    public int front(int shop, int v) {
        if (!within(shop, 0, SHOPS - 1) || !within(v, 0, 1000)) {
            return finding(BEYOND);
        }
        int was = bills.fronts[shop];
        bills.fronts[shop] = v;
        return was;
    }

    public int part(int v) {
        if (!within(v, 0, 100)) {
            return finding(BEYOND);
        }
        int was = bills.townPart;
        bills.townPart = v;
        return was;
    }

    public int share(int shop, int bill) {
        if (!within(shop, -1, SHOPS - 1) || !within(bill, 0, 1000000)) {
            return finding(BEYOND);
        }
        return shop < 0 ? bills.townPays(bill) : bills.shopPays(shop, bill);
    }

    // ---- lamps

    public int lamp(int s, int p) {
        if (!strings.hasLamp(s, p)) {
            return finding(BEYOND);
        }
        return strings.crateOf(s, p);
    }

    public int replace(int s, int p) {
        if (!strings.hasLamp(s, p)) {
            return finding(BEYOND);
        }
        if (crates.allLeft() == 0) {
            return finding(STATE);
        }
        int taken = crates.take();
        crates.spoil(strings.crateOf(s, p));
        strings.setCrateOf(s, p, taken);
        return taken;
    }

    public int box(int crate, int what) {
        if (!crates.has(crate)) {
            return finding(BEYOND);
        }
        switch (what) {
            case 0: return crates.lamps[crate];
            case 1: return crates.left[crate];
            case 2: return crates.faulty[crate];
            case 3: return crates.hanging[crate];
            default: return finding(BEYOND);
        }
    }

    // ---- what is told

    public int tell(int v) {
        if (waiting.size >= STRINGS) {
            return finding(FULL);
        }
        return waiting.add(v);
    }

    public int check() {
        boolean isFound = fuseSearch.search();
        int answer = isFound ? waiting.compare(fuseSearch.asBits()) : finding(NONE);
        waiting.size = 0;
        return answer;
    }

    public int count(int what) {
        switch (what) {
            case 0: return strings.size;
            case 1: return crates.size;
            case 2: return countDead();
            case 3: return countDark();
            case 4: return waiting.size;
            case 5: return crates.allLeft();
            default: return finding(BEYOND);
        }
    }

    public int found(int k) {
        if (!within(k, 1, FINDINGS)) {
            return finding(BEYOND);
        }
        return findings[k];
    }

    // ---- what the face shares

    private int finding(int answer) {
        int k = LOW - answer;
        if (within(k, 1, FINDINGS)) {
            findings[k]++;
        }
        return answer;
    }

    private static boolean within(int v, int least, int greatest) {
        return v >= least && v <= greatest;
    }

    private static int bit(boolean is) {
        return is ? 1 : 0;
    }

    private static boolean hasBit(int bits, int place) {
        return ((bits >> place) & 1) == 1;
    }

    private static boolean isHow(int how) {
        return how >= 0 && how / 100 < STREETS && how / 10 % 10 <= SIGN && how % 10 <= 1;
    }

    private boolean isUp(int hangsOnString, int up) {
        return hangsOnString == 1 ? strings.has(up) : up == 0;
    }

    private boolean darkNow(int s) {
        branches.survey();
        return branches.dark[s];
    }

    private int countDead() {
        int sum = 0;
        for (int s = 0; s < strings.size; s++) {
            sum += bit(strings.dead[s]);
        }
        return sum;
    }

    private int countDark() {
        branches.survey();
        int sum = 0;
        for (int s = 0; s < strings.size; s++) {
            sum += bit(branches.dark[s]);
        }
        return sum;
    }

    /** The crates, and where the lamps of each are. */
    private static final class Crates {
        int size;
        final int[] lamps;
        final int[] left;
        final int[] faulty;
        final int[] hanging;

        Crates() {
            lamps = new int[CRATES];
            left = new int[CRATES];
            faulty = new int[CRATES];
            hanging = new int[CRATES];
        }

        boolean has(int crate) {
            return crate >= 0 && crate < size;
        }

        /** The caller has seen that there is room. */
        int add(int count) {
            int crate = size;
            lamps[crate] = count;
            left[crate] = count;
            size++;
            return crate;
        }

        int allLeft() {
            int sum = 0;
            for (int crate = 0; crate < size; crate++) {
                sum += left[crate];
            }
            return sum;
        }

        /** One lamp goes up: the crate that it is from, or -1 if none has one left. */
        int take() {
            for (int crate = 0; crate < size; crate++) {
                if (left[crate] > 0) {
                    left[crate]--;
                    hanging[crate]++;
                    return crate;
                }
            }
            return -1;
        }

        /** A lamp that hung comes down, for good. */
        void spoil(int crate) {
            if (has(crate)) {
                hanging[crate]--;
                faulty[crate]++;
            }
        }
    }

    /** The strings as they were hung, a row for each thing told of them. */
    private static final class Strings {
        static final int LAMPS = 60;

        int size;
        final int[] kind;
        final int[] up;
        final int[] street;
        final int[] length;
        final int[] wire;
        final int[] lamps;
        final int[] watt;
        final int[] fuse;
        final boolean[] dead;
        final int[] first;
        final int[] last;
        private final int[] lampCrates;

        Strings() {
            kind = new int[STRINGS];
            up = new int[STRINGS];
            street = new int[STRINGS];
            length = new int[STRINGS];
            wire = new int[STRINGS];
            lamps = new int[STRINGS];
            watt = new int[STRINGS];
            fuse = new int[STRINGS];
            dead = new boolean[STRINGS];
            first = new int[STRINGS];
            last = new int[STRINGS];
            lampCrates = new int[STRINGS * LAMPS];
        }

        boolean has(int s) {
            return s >= 0 && s < size;
        }

        boolean hasLamp(int s, int p) {
            return has(s) && p >= 0 && p < lamps[s];
        }

        /** The caller has seen that all numbers are as told, and that there is room. */
        int add(int how, int itsUp, int itsLength, int itsWire, int itsLamps, int itsWatt) {
            int s = size;
            street[s] = how / 100;
            kind[s] = how / 10 % 10;
            up[s] = how % 10 == 1 ? itsUp : -1;
            length[s] = itsLength;
            wire[s] = itsWire;
            lamps[s] = itsLamps;
            watt[s] = itsWatt;
            size++;
            return s;
        }

        int crateOf(int s, int p) {
            return lampCrates[s * LAMPS + p];
        }

        void setCrateOf(int s, int p, int crate) {
            lampCrates[s * LAMPS + p] = crate;
        }

        boolean isOf(int s, int asked) {
            return asked == PLAIN || kind[s] == asked;
        }

        int load(int s) {
            int one = lamps[s] * watt[s];
            return kind[s] == SIGN ? 2 * one : one;
        }

        int bears(int s) {
            return 500 * wire[s];
        }

        int hours(int s) {
            return 1 + length[s] / 20;
        }

        /** What is known of the fault stays known if the string was dead before. */
        void kill(int s) {
            if (dead[s]) {
                return;
            }
            dead[s] = true;
            first[s] = 0;
            last[s] = lamps[s] - 1;
        }
    }

    /** What each branch carries. The rows hold what the last survey saw. */
    private static final class Branches {
        private static final int WET_FUSE = 500;

        private final Strings strings;
        int mostFall;
        final boolean[] dark;
        final int[] current;
        final int[] worst;
        final int[] fall;
        /** The fuse nearest at or above a string, 0 if there is none. */
        private final int[] guard;

        Branches(Strings strings) {
            this.strings = strings;
            mostFall = 1000;
            dark = new boolean[STRINGS];
            current = new int[STRINGS];
            worst = new int[STRINGS];
            fall = new int[STRINGS];
            guard = new int[STRINGS];
        }

        /** A string's up has a lesser number: downwards by rising numbers, upwards by falling ones. */
        void survey() {
            surveyDark();
            surveyLoads();
            surveyFalls();
        }

        private void surveyDark() {
            for (int s = 0; s < strings.size; s++) {
                int up = strings.up[s];
                dark[s] = strings.dead[s] || (up >= 0 && dark[up]);
            }
        }

        private void surveyLoads() {
            for (int s = 0; s < strings.size; s++) {
                worst[s] = strings.load(s);
                current[s] = dark[s] ? 0 : strings.load(s);
            }
            for (int s = strings.size - 1; s >= 0; s--) {
                int up = strings.up[s];
                if (up >= 0) {
                    worst[up] += worst[s];
                    current[up] += current[s];
                }
            }
        }

        private void surveyFalls() {
            for (int s = 0; s < strings.size; s++) {
                int up = strings.up[s];
                int own = strings.length[s] * worst[s] / Math.max(1, 10 * strings.wire[s]);
                fall[s] = up >= 0 ? fall[up] + own : own;
                int above = up >= 0 ? guard[up] : 0;
                guard[s] = strings.fuse[s] > 0 ? strings.fuse[s] : above;
            }
        }

        /** By the last survey. */
        int wrong(int s) {
            int fuse = strings.fuse[s];
            if (fuse > 0 && worst[s] > fuse) {
                return 1;
            }
            if (strings.kind[s] == WET && (fuse == 0 || fuse > WET_FUSE)) {
                return 2;
            }
            if (fall[s] > mostFall) {
                return 3;
            }
            if (fuse > strings.bears(s)) {
                return 4;
            }
            if (guard[s] == 0) {
                return 5;
            }
            return guard[s] > strings.bears(s) ? 6 : 0;
        }

        /** Each round makes one more string dead, so there are no more rounds than strings. */
        int blowFuses() {
            int blown = 0;
            for (int round = 0; round < STRINGS; round++) {
                survey();
                int s = lastOverloaded();
                if (s < 0) {
                    break;
                }
                strings.kill(s);
                blown++;
            }
            return blown;
        }

        private int lastOverloaded() {
            for (int s = strings.size - 1; s >= 0; s--) {
                if (strings.fuse[s] > 0 && strings.fuse[s] < current[s]) {
                    return s;
                }
            }
            return -1;
        }
    }

    /**
     * The fewest fuses. A set's cost is how many strings it has, and under that, in the lower 24 places, its bits:
     * so the least cost is the set that is asked for, and costs of branches that share no string add up.
     */
    private static final class FuseSearch {
        private static final int ONE = 1 << STRINGS;
        private static final int NO_WAY = 1 << 29;

        private final Strings strings;
        private final Branches branches;
        /** By s and a: the least cost of all that hang on s if a has the fuse nearest at or above s. */
        private final int[] below;
        private int cost;

        FuseSearch(Strings strings, Branches branches) {
            this.strings = strings;
            this.branches = branches;
            below = new int[STRINGS * STRINGS];
            cost = NO_WAY;
        }

        /** Whether there is such a set. */
        boolean search() {
            branches.survey();
            Arrays.fill(below, 0);
            cost = 0;
            for (int s = strings.size - 1; s >= 0; s--) {
                int up = strings.up[s];
                int withFuse = costWithFuse(s);
                if (up < 0) {
                    cost = join(cost, withFuse);
                } else {
                    joinToUp(s, up, withFuse);
                }
            }
            return cost < NO_WAY;
        }

        /** What is reckoned for an a that s does not hang on is never used. */
        private void joinToUp(int s, int up, int withFuse) {
            for (int a = 0; a <= up; a++) {
                int place = up * STRINGS + a;
                below[place] = join(below[place], Math.min(withFuse, costWithout(s, a)));
            }
        }

        private int costWithFuse(int s) {
            int fuse = branches.worst[s];
            boolean tooMuch = fuse > strings.bears(s) || (strings.kind[s] == WET && fuse > Branches.WET_FUSE);
            return tooMuch ? NO_WAY : join(ONE + (1 << s), below[s * STRINGS + s]);
        }

        private int costWithout(int s, int a) {
            boolean mustHave = strings.kind[s] == WET || branches.worst[a] > strings.bears(s);
            return mustHave ? NO_WAY : below[s * STRINGS + a];
        }

        private static int join(int one, int other) {
            return Math.min(NO_WAY, one + other);
        }

        int howMany() {
            return cost >> STRINGS;
        }

        int asBits() {
            return cost & (ONE - 1);
        }

        void putFuses() {
            for (int s = 0; s < strings.size; s++) {
                strings.fuse[s] = hasBit(asBits(), s) ? branches.worst[s] : 0;
            }
        }
    }

    /** The crews' nights: the order, and the plan by it. */
    private static final class Nights {
        static final int CREWS = 3;
        static final int BEST_STRINGS = 6;
        static final int ALL_OPEN = 127;
        private static final int NIGHTS = 60;
        private static final int NEVER = -1;
        private static final int END_NEVER = 99;

        private final Strings strings;
        int crews;
        int hours;
        final int[] rows;
        private final int[] places;
        final int[] nightOf;
        final int[] crewOf;
        private final int[] hoursLeft;
        private final int[] trial;
        private int bestEnd;

        Nights(Strings strings) {
            this.strings = strings;
            crews = 1;
            hours = 6;
            rows = new int[STREETS];
            Arrays.fill(rows, ALL_OPEN);
            places = new int[STRINGS];
            nightOf = new int[STRINGS];
            crewOf = new int[STRINGS];
            hoursLeft = new int[NIGHTS * CREWS];
            trial = new int[BEST_STRINGS];
        }

        /** For a string that has just come: its number is the last place, too. */
        void putLast(int s) {
            places[s] = s;
        }

        int placeOf(int s) {
            for (int i = 0; i < strings.size; i++) {
                if (places[i] == s) {
                    return i;
                }
            }
            return -1;
        }

        int move(int s, int to) {
            int from = placeOf(s);
            if (from < 0) {
                return from;
            }
            for (int i = from; i < to; i++) {
                places[i] = places[i + 1];
            }
            for (int i = from; i > to; i--) {
                places[i] = places[i - 1];
            }
            places[to] = s;
            return from;
        }

        /** The plan by the order: its end. */
        int hangAll() {
            clearNights();
            int end = 0;
            for (int i = 0; i < strings.size; i++) {
                end = Math.max(end, endWith(places[i]));
            }
            return end;
        }

        private void clearNights() {
            Arrays.fill(hoursLeft, hours);
            Arrays.fill(nightOf, NEVER);
            Arrays.fill(crewOf, NEVER);
        }

        /** Hangs one string: the end of a plan that had no other one. */
        private int endWith(int s) {
            int up = strings.up[s];
            int from = up < 0 ? 0 : nightOf[up];
            if (from < 0 || strings.hours(s) > hours) {
                return END_NEVER;
            }
            int row = rows[strings.street[s]];
            for (int night = from; night < NIGHTS; night++) {
                int crew = hasBit(row, night % 7) ? freeCrew(night, strings.hours(s)) : NEVER;
                if (crew >= 0) {
                    hoursLeft[night * CREWS + crew] -= strings.hours(s);
                    nightOf[s] = night;
                    crewOf[s] = crew;
                    return 1 + night;
                }
            }
            return END_NEVER;
        }

        private int freeCrew(int night, int wanted) {
            for (int crew = 0; crew < crews; crew++) {
                if (hoursLeft[night * CREWS + crew] >= wanted) {
                    return crew;
                }
            }
            return NEVER;
        }

        private void takeDown(int s) {
            if (nightOf[s] >= 0) {
                hoursLeft[nightOf[s] * CREWS + crewOf[s]] += strings.hours(s);
                nightOf[s] = NEVER;
                crewOf[s] = NEVER;
            }
        }

        /** The order by numbers comes before all others: another one must end earlier to be better. */
        int takeBestOrder() {
            for (int s = 0; s < strings.size; s++) {
                places[s] = s;
            }
            bestEnd = hangAll();
            clearNights();
            tryFrom(0, 0, 0);
            return bestEnd;
        }

        /** Tries all that may follow the first strings of the trial; used are these as bits, end is their plan's. */
        private void tryFrom(int depth, int used, int end) {
            if (depth >= strings.size || depth >= BEST_STRINGS) {
                keepTrial(end);
                return;
            }
            for (int s = 0; s < strings.size; s++) {
                if (hasBit(used, s)) {
                    continue;
                }
                int later = Math.max(end, endWith(s));
                if (later < bestEnd) {
                    trial[depth] = s;
                    tryFrom(depth + 1, used | (1 << s), later);
                }
                takeDown(s);
            }
        }

        private void keepTrial(int end) {
            if (end >= bestEnd) {
                return;
            }
            bestEnd = end;
            for (int i = 0; i < strings.size && i < BEST_STRINGS; i++) {
                places[i] = trial[i];
            }
        }
    }

    /** How a bill is parted. */
    private static final class Bills {
        final int[] fronts;
        int townPart;

        Bills() {
            fronts = new int[SHOPS];
            townPart = 50;
        }

        private int allFronts() {
            int sum = 0;
            for (int shop = 0; shop < SHOPS; shop++) {
                sum += fronts[shop];
            }
            return sum;
        }

        int townPays(int bill) {
            return allFronts() == 0 ? bill : bill * townPart / 100;
        }

        int shopPays(int shop, int bill) {
            int all = allFronts();
            if (all == 0) {
                return 0;
            }
            int parted = bill - townPays(bill);
            int coinsLeft = parted;
            int ahead = 0;
            int ownRest = parted * fronts[shop] % all;
            for (int other = 0; other < SHOPS; other++) {
                coinsLeft -= parted * fronts[other] / all;
                int rest = parted * fronts[other] % all;
                if (rest > ownRest || (rest == ownRest && other < shop)) {
                    ahead++;
                }
            }
            int whole = parted * fronts[shop] / all;
            return ahead < coinsLeft ? whole + 1 : whole;
        }
    }

    /** The numbers that wait for a check. */
    private static final class Waiting {
        private static final int MORE_TOLD = 99;

        int size;
        private final int[] numbers;

        Waiting() {
            numbers = new int[STRINGS];
        }

        /** The caller has seen that there is room. */
        int add(int v) {
            numbers[size] = v;
            size++;
            return size;
        }

        int compare(int bits) {
            int i = 0;
            for (int s = 0; s < STRINGS; s++) {
                if (!hasBit(bits, s)) {
                    continue;
                }
                if (i >= size || numbers[i] != s) {
                    return 1 + i;
                }
                i++;
            }
            return size > i ? MORE_TOLD : 0;
        }
    }
}
