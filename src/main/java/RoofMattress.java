/** A mattress on the roof of a small car. The words in capitals, the sections and the promises are those of DOC.md. */
public final class RoofMattress {
    public static final int NONE = -1, UNKNOWN = -1000000001, OUTSIDE = -1000000002, NOT = -1000000003, FULL = -1000000004;

    private static final int MOST_LETTERS = 200, MOST_CORDS = 4, MOST_ROADS = 6, MOST_MILES = 120;
    private static final int MOST_DEEDS = 30, IMAGES = 2, MOST_SEEN = 6, MOST_ENTRIES = 20;
    private static final int LEAST_PACE = 10, MOST_PACE = 70, NO_PACE = 9, MOST_GUST = 30;
    private static final int OVER_FRONT = 0, OVER_BACK = 2, WAYS = 4;
    private static final int MOST_TIGHT = 99, MOST_FAR = 99, MOST_WEIGHT = 999, MOST_SECONDS = 900000;
    private static final int CANNOT_BE = -2, BILLION = 1000000000, DRAW_OF = 11;

    private final Text text = new Text();
    private final Reader reader = new Reader();
    private final Plan plan = new Plan();
    private final Now now = new Now();
    private final Deeds deeds = new Deeds();
    private final Images images = new Images();
    private final Seen seen = new Seen();
    private final Book book = new Book();
    private final Ride ride = new Ride();
    private int faultAt = NONE;
    private int drawn = 0;

    public RoofMattress() {
    }

    // ---- the trip

    public int feed(int letter) {
        if (!within(letter, 0, 255)) {
            return OUTSIDE;
        }
        return text.add(letter) ? text.count : FULL;
    }

    public int trip() {
        reader.readAll(text);
        text.count = 0;
        faultAt = reader.at;
        if (reader.fault != 0) {
            return -10 - reader.fault;
        }
        plan.copy(reader.draft);
        now.begin(plan);
        deeds.forget();
        images.forget();
        seen.count = 0;
        book.count = 0;
        return plan.allMiles();
    }

    public int fault() {
        return faultAt;
    }

    public int told(int what) {
        switch (what) {
            case 0: return now.weight;
            case 1: return plan.area;
            case 2: return plan.stopSeconds;
            case 3: return plan.cords;
            case 4: return plan.roads;
            case 5: return text.count;
            case 6: return now.driven;
            case 7: return milesLeft();
            case 8: return plan.roadBehind(now.driven);
            case 9: return now.seconds;
            case 10: return now.harms;
            case 11: return now.lost;
            case 12: return seen.count;
            case 13: return book.count;
            case 14: return deeds.count;
            default: return OUTSIDE;
        }
    }

    public int cord(int c, int what) {
        if (!plan.hasCord(c)) {
            return UNKNOWN;
        }
        switch (what) {
            case 0: return now.ways[c];
            case 1: return plan.tights[c];
            case 2: return plan.gives[c];
            case 3: return now.tights[c];
            case 4: return now.since[c];
            default: return OUTSIDE;
        }
    }

    public int road(int r, int what) {
        if (!plan.hasRoad(r)) {
            return UNKNOWN;
        }
        switch (what) {
            case 0: return plan.miles[r];
            case 1: return plan.paces[r];
            case 2: return plan.gusts[r];
            default: return OUTSIDE;
        }
    }

    public int lift(int pace, int gust, int what) {
        if (!within(pace, 0, 99) || !isGust(gust) || !within(what, 0, 4)) {
            return OUTSIDE;
        }
        if (!plan.there) {
            return NOT;
        }
        int front = liftFront(plan.area, pace, gust);
        int back = liftBack(plan.area, pace, gust);
        switch (what) {
            case 0: return front;
            case 1: return back;
            case 2: return now.holdFront(plan, 0);
            case 3: return now.holdBack(plan, 0);
            default: return front <= now.holdFront(plan, 0) && back <= now.holdBack(plan, 0) ? 1 : 0;
        }
    }

    // ---- deeds

    public int drive(int n, int pace) {
        return travel(n, pace, false);
    }

    public int stop() {
        if (!onTheRoof()) {
            return NOT;
        }
        if (now.seconds > MOST_SECONDS) {
            return FULL;
        }
        deeds.push(now);
        now.pullAll(plan);
        now.seconds += plan.stopSeconds;
        return now.seconds;
    }

    public int rain(int r) {
        if (!within(r, 1, 99)) {
            return OUTSIDE;
        }
        if (!plan.there) {
            return NOT;
        }
        deeds.push(now);
        now.weight = Math.min(now.weight + r, MOST_WEIGHT);
        return now.weight;
    }

    public int runs(int c, int way) {
        if (!plan.hasCord(c)) {
            return UNKNOWN;
        }
        if (!within(way, 0, WAYS - 1)) {
            return OUTSIDE;
        }
        if (!onTheRoof()) {
            return NOT;
        }
        if (now.seconds > MOST_SECONDS) {
            return FULL;
        }
        deeds.push(now);
        int ran = now.ways[c];
        now.ways[c] = way;
        now.pull(plan, c);
        now.seconds += plan.stopSeconds;
        return ran;
    }

    public int pick() {
        if (now.lost == 0) {
            return NOT;
        }
        if (now.seconds > MOST_SECONDS) {
            return FULL;
        }
        deeds.push(now);
        now.lost = 0;
        now.pullAll(plan);
        now.seconds += 2 * plan.stopSeconds;
        return now.harms;
    }

    public int drift(int n, int pace) {
        return travel(n, pace, true);
    }

    public int undo(int n) {
        if (!within(n, 1, MOST_DEEDS)) {
            return OUTSIDE;
        }
        if (n > deeds.count) {
            return NOT;
        }
        deeds.pop(now, n);
        return now.driven;
    }

    // ---- tried

    public int highest(int gust) {
        if (!isGust(gust)) {
            return OUTSIDE;
        }
        if (!plan.there) {
            return NOT;
        }
        int pace = climb(NO_PACE, gust, now.holdFront(plan, 0), now.holdBack(plan, 0));
        return pace == NO_PACE ? NONE : pace;
    }

    public int slack(int c, int n) {
        if (!plan.hasCord(c)) {
            return UNKNOWN;
        }
        if (!within(n, 0, 99)) {
            return OUTSIDE;
        }
        return tightBehind(n, now.tights[c], now.since[c], plan.gives[c]);
    }

    public int far(int pace, int gust) {
        if (!isPace(pace) || !isGust(gust)) {
            return OUTSIDE;
        }
        if (!plan.there) {
            return NOT;
        }
        int front = liftFront(plan.area, pace, gust);
        int back = liftBack(plan.area, pace, gust);
        for (int mile = 0; mile < MOST_FAR; mile++) {
            if (front > now.holdFront(plan, mile) || back > now.holdBack(plan, mile)) {
                return mile;
            }
        }
        return MOST_FAR;
    }

    public int stops(int pace, int what) {
        if (!isPace(pace) || !within(what, 0, 1)) {
            return OUTSIDE;
        }
        if (!onTheRoof()) {
            return NOT;
        }
        ride.prepare(plan, now, milesLeft());
        if (!ride.goes(plan, now.driven, pace)) {
            return CANNOT_BE;
        }
        return what == 0 ? ride.pulls : ride.firstPull;
    }

    public int soonest(int what) {
        if (!within(what, 0, 1)) {
            return OUTSIDE;
        }
        if (!onTheRoof()) {
            return NOT;
        }
        ride.prepare(plan, now, milesLeft());
        int best = NONE;
        int least = NONE;
        for (int pace = LEAST_PACE; pace <= MOST_PACE; pace++) {
            if (ride.goes(plan, now.driven, pace) && (best == NONE || ride.seconds < least)) {
                best = pace;
                least = ride.seconds;
            }
        }
        return what == 0 ? best : least;
    }

    public int where(int gust, int c) {
        if (c != NONE && !plan.hasCord(c)) {
            return UNKNOWN;
        }
        if (!isGust(gust)) {
            return OUTSIDE;
        }
        if (!plan.there) {
            return NOT;
        }
        int best = NO_PACE;
        int bestWays = 0;
        int all = 1 << 2 * plan.cords;
        for (int ways = 0; ways < all; ways++) {
            int front = now.weight / 2 + plan.pulledFront(ways);
            int back = now.weight - now.weight / 2 + plan.pulledBack(ways);
            int pace = climb(best, gust, front, back);
            if (pace > best) {
                best = pace;
                bestWays = ways;
            }
        }
        if (c != NONE) {
            return plan.wayIn(bestWays, c);
        }
        return best == NO_PACE ? NONE : best;
    }

    public int hand(int h, int gust) {
        if (!within(h, 0, 99) || !isGust(gust)) {
            return OUTSIDE;
        }
        if (!plan.there) {
            return NOT;
        }
        int front = now.holdFront(plan, 0);
        int back = now.holdBack(plan, 0);
        int without = climb(NO_PACE, gust, front, back);
        int with = climb(NO_PACE, gust, front + h, back);
        return with == NO_PACE ? NONE : with - without;
    }

    public int van(int x, int q, int y) {
        if (!within(x, 0, 999) || !within(q, 0, 100) || !within(y, 0, 9999)) {
            return OUTSIDE;
        }
        return q * y / 100 > x ? 1 : 0;
    }

    public int knots(int n, int q) {
        if (!within(n, 0, 60) || !within(q, 0, 100)) {
            return OUTSIDE;
        }
        long odds = BILLION;
        int times = n * plan.cords;
        for (int i = 0; i < times; i++) {
            odds = odds * (100 - q) / 100;
        }
        return (int) odds;
    }

    // ---- what was seen

    public int see(int c, int pace, int gust, boolean held) {
        if (!plan.hasCord(c)) {
            return UNKNOWN;
        }
        if (!isPace(pace) || !isGust(gust)) {
            return OUTSIDE;
        }
        return seen.add(c, pace, gust, held) ? seen.count : FULL;
    }

    public int was(int c, int what) {
        if (!plan.hasCord(c)) {
            return UNKNOWN;
        }
        if (!within(what, 0, 2)) {
            return OUTSIDE;
        }
        int least = seen.leastTight(plan, now, c);
        int most = seen.mostTight(plan, now, c);
        if (what == 0) {
            return Math.max(0, most - least + 1);
        }
        if (least > most) {
            return NONE;
        }
        return what == 1 ? least : most;
    }

    public int tries(int c, int gust) {
        if (!plan.hasCord(c)) {
            return UNKNOWN;
        }
        if (!isGust(gust)) {
            return OUTSIDE;
        }
        int least = seen.leastTight(plan, now, c);
        int most = seen.mostTight(plan, now, c);
        int all = Math.max(0, most - least + 1);
        int best = NONE;
        int bestPart = all;
        for (int pace = LEAST_PACE; pace <= MOST_PACE; pace++) {
            int bound = now.tightToHold(plan, c, pace, gust);
            int holding = Math.max(0, most - Math.max(least, bound) + 1);
            int part = Math.max(holding, all - holding);
            if (part < bestPart) {
                best = pace;
                bestPart = part;
            }
        }
        return best;
    }

    public int write(int c, int tight) {
        if (!plan.hasCord(c)) {
            return UNKNOWN;
        }
        if (!within(tight, 0, MOST_TIGHT)) {
            return OUTSIDE;
        }
        return book.add(c, tight) ? book.count : FULL;
    }

    public int judge() {
        return book.firstWrong(now);
    }

    public int tear() {
        int had = seen.count + book.count;
        seen.count = 0;
        book.count = 0;
        return had;
    }

    // ---- images

    public int seed(int v) {
        if (v < 0) {
            return OUTSIDE;
        }
        int before = drawn;
        drawn = v;
        return before;
    }

    public int keep(int i) {
        if (!within(i, 0, IMAGES - 1)) {
            return UNKNOWN;
        }
        images.put(i, now, drawn);
        deeds.forget();
        return 1;
    }

    public int goBack(int i) {
        if (!within(i, 0, IMAGES - 1)) {
            return UNKNOWN;
        }
        if (!images.kept[i]) {
            return NOT;
        }
        now.load(images.rows, i * Now.SIZE);
        drawn = images.seeds[i];
        deeds.forget();
        return 1;
    }

    // ---- what several calls need

    private boolean onTheRoof() {
        return plan.there && now.lost == 0;
    }

    private int milesLeft() {
        return plan.allMiles() - now.driven;
    }

    private int travel(int n, int pace, boolean byDraws) {
        if (!within(n, 1, 30) || !isPace(pace)) {
            return OUTSIDE;
        }
        if (!onTheRoof() || milesLeft() <= 0) {
            return NOT;
        }
        int miles = Math.min(n, milesLeft());
        for (int mile = 0; mile < miles; mile++) {
            deeds.push(now);
            int more = byDraws ? nextDraw() : 0;
            if (!now.mile(plan, pace, more)) {
                return mile;
            }
        }
        return miles;
    }

    private int nextDraw() {
        drawn = (int) ((drawn * 1103515245L + 12345L) & 0x7FFFFFFFL);
        return drawn / 65536 % DRAW_OF;
    }

    /** Goes up from a PACE as long as the next HOLDS: LIFT never falls as PACE grows, so none beyond HOLDS either. */
    private int climb(int from, int gust, int holdFront, int holdBack) {
        for (int pace = from; pace < MOST_PACE; pace++) {
            if (liftFront(plan.area, pace + 1, gust) > holdFront || liftBack(plan.area, pace + 1, gust) > holdBack) {
                return pace;
            }
        }
        return MOST_PACE;
    }

    private static boolean within(int v, int least, int most) {
        return v >= least && v <= most;
    }

    private static boolean isPace(int pace) {
        return within(pace, LEAST_PACE, MOST_PACE);
    }

    private static boolean isGust(int gust) {
        return within(gust, 0, MOST_GUST);
    }

    private static int liftAll(int area, int pace, int gust) {
        int v = pace + gust;
        return area * v * v / 400;
    }

    private static int liftFront(int area, int pace, int gust) {
        return liftAll(area, pace, gust) * 2 / 3;
    }

    private static int liftBack(int area, int pace, int gust) {
        int all = liftAll(area, pace, gust);
        return all - all * 2 / 3;
    }

    private static int cordFront(int way, int tight) {
        if (way == OVER_FRONT) {
            return tight;
        }
        return way == OVER_BACK ? 0 : tight / 2;
    }

    private static int cordBack(int way, int tight) {
        return tight - cordFront(way, tight);
    }

    /** How TIGHT a CORD is n MILES on: of these, those among the first 4 since it was PULLED count twice. */
    private static int tightBehind(int n, int tight, int since, int gives) {
        int twice = Math.min(n, Math.max(0, 4 - since));
        return Math.max(0, tight - gives * (n + twice));
    }

    /** THE TEXT, as far as it was fed. */
    private static final class Text {
        final int[] letters = new int[MOST_LETTERS];
        int count = 0;

        boolean add(int letter) {
            if (count < 0 || count >= letters.length) {
                return false;
            }
            letters[count] = letter;
            count++;
            return true;
        }

        /** NONE behind the end, where no word or figure stands. */
        int letterAt(int at) {
            return at >= 0 && at < count && at < letters.length ? letters[at] : NONE;
        }

        int skipBlanks(int from) {
            int at = from;
            while (at < count && letterAt(at) == ' ') {
                at++;
            }
            return at;
        }
    }

    /** Reads THE TEXT into a draft, so that a FAULT leaves THE TRIP as it was. */
    private static final class Reader {
        private static final int CANNOT_STAND = 1, BAD_NUMBER = 2, TOO_MANY = 3;
        private static final int LOAD = 0, CORD = 1, ROAD = 2, NUMBERS = 3;
        private static final int[] LEAST = {1, 1, 0, 0, 0, 0, 1, 10, 0};
        private static final int[] MOST = {99, 40, 999, 3, 99, 9, 20, 70, 30};

        final Plan draft = new Plan();
        final int[] numbers = new int[NUMBERS];
        int fault = 0;
        int at = NONE;

        void readAll(Text text) {
            draft.clear();
            fault = 0;
            at = NONE;
            int next = text.skipBlanks(0);
            for (int clause = 0; clause < MOST_LETTERS && fault == 0 && next < text.count; clause++) {
                next = text.skipBlanks(readClause(text, next));
            }
        }

        private int readClause(Text text, int from) {
            int kind = kindOf(text.letterAt(from));
            int wrong = wordFault(kind);
            if (wrong != 0) {
                return fail(wrong, from);
            }
            int next = from + 1;
            for (int k = 0; k < NUMBERS && fault == 0; k++) {
                next = readNumber(text, text.skipBlanks(next), kind, k);
            }
            if (fault != 0) {
                return next;
            }
            next = text.skipBlanks(next);
            if (text.letterAt(next) != ';') {
                return fail(CANNOT_STAND, next);
            }
            take(kind);
            return next + 1;
        }

        private int readNumber(Text text, int from, int kind, int k) {
            if (!isFigure(text.letterAt(from))) {
                return fail(CANNOT_STAND, from);
            }
            int value = 0;
            int next = from;
            while (next < text.count && isFigure(text.letterAt(next))) {
                // beyond three figures it is a FAULT anyway, whatever its value
                if (next - from < 3) {
                    value = value * 10 + text.letterAt(next) - '0';
                }
                next++;
            }
            int row = kind * NUMBERS + k;
            if (row < 0 || row >= LEAST.length || row >= MOST.length || k >= numbers.length) {
                return fail(CANNOT_STAND, from);
            }
            if (next - from > 3 || !within(value, LEAST[row], MOST[row])) {
                return fail(BAD_NUMBER, from);
            }
            numbers[k] = value;
            return next;
        }

        private int fail(int number, int letter) {
            fault = number;
            at = letter;
            return letter;
        }

        private int wordFault(int kind) {
            if (kind == NONE || (kind != LOAD && !draft.there)) {
                return CANNOT_STAND;
            }
            boolean full = kind == LOAD ? draft.there
                    : kind == CORD ? draft.cords >= MOST_CORDS : draft.roads >= MOST_ROADS;
            return full ? TOO_MANY : 0;
        }

        private void take(int kind) {
            switch (kind) {
                case LOAD: draft.setLoad(numbers[0], numbers[1], numbers[2]); break;
                case CORD: draft.addCord(numbers[0], numbers[1], numbers[2]); break;
                default: draft.addRoad(numbers[0], numbers[1], numbers[2]); break;
            }
        }

        private static int kindOf(int letter) {
            switch (letter) {
                case 'l': return LOAD;
                case 'c': return CORD;
                case 'r': return ROAD;
                default: return NONE;
            }
        }

        private static boolean isFigure(int letter) {
            return within(letter, '0', '9');
        }
    }

    /** THE TRIP as told in the text; no deed changes it. */
    private static final class Plan {
        boolean there = false;
        int weight = 0;
        int area = 0;
        int stopSeconds = 0;
        int cords = 0;
        int roads = 0;
        final int[] ways = new int[MOST_CORDS];
        final int[] tights = new int[MOST_CORDS];
        final int[] gives = new int[MOST_CORDS];
        final int[] miles = new int[MOST_ROADS];
        final int[] paces = new int[MOST_ROADS];
        final int[] gusts = new int[MOST_ROADS];

        void clear() {
            there = false;
            weight = 0;
            area = 0;
            stopSeconds = 0;
            cords = 0;
            roads = 0;
        }

        void copy(Plan other) {
            clear();
            if (other.there) {
                setLoad(other.weight, other.area, other.stopSeconds);
            }
            for (int c = 0; c < other.cords && c < MOST_CORDS; c++) {
                addCord(other.ways[c], other.tights[c], other.gives[c]);
            }
            for (int r = 0; r < other.roads && r < MOST_ROADS; r++) {
                addRoad(other.miles[r], other.paces[r], other.gusts[r]);
            }
        }

        void setLoad(int w, int a, int s) {
            there = true;
            weight = w;
            area = a;
            stopSeconds = s;
        }

        void addCord(int y, int t, int g) {
            if (cords < 0 || cords >= MOST_CORDS) {
                return;
            }
            ways[cords] = y;
            tights[cords] = t;
            gives[cords] = g;
            cords++;
        }

        void addRoad(int m, int p, int u) {
            if (roads < 0 || roads >= MOST_ROADS) {
                return;
            }
            miles[roads] = m;
            paces[roads] = p;
            gusts[roads] = u;
            roads++;
        }

        boolean hasCord(int c) {
            return c >= 0 && c < cords && c < MOST_CORDS;
        }

        boolean hasRoad(int r) {
            return r >= 0 && r < roads && r < MOST_ROADS;
        }

        int allMiles() {
            int all = 0;
            for (int r = 0; r < roads && r < MOST_ROADS; r++) {
                all += miles[r];
            }
            return all;
        }

        int roadBehind(int driven) {
            int end = 0;
            for (int r = 0; r < roads && r < MOST_ROADS; r++) {
                end += miles[r];
                if (driven < end) {
                    return r;
                }
            }
            return NONE;
        }

        /** Ways of all CORDS are one number, two bits each, CORD 0 highest: so it counts up in the document's order. */
        int wayIn(int all, int c) {
            return all >> 2 * (cords - 1 - c) & 3;
        }

        int pulledFront(int all) {
            int sum = 0;
            for (int c = 0; c < cords && c < MOST_CORDS; c++) {
                sum += cordFront(wayIn(all, c), tights[c]);
            }
            return sum;
        }

        int pulledBack(int all) {
            int sum = 0;
            for (int c = 0; c < cords && c < MOST_CORDS; c++) {
                sum += cordBack(wayIn(all, c), tights[c]);
            }
            return sum;
        }
    }

    /** All of section 2 that deeds change. */
    private static final class Now {
        static final int SIZE = 5 + 3 * MOST_CORDS;

        int weight = 0;
        int driven = 0;
        int seconds = 0;
        int harms = 0;
        int lost = 0;
        final int[] ways = new int[MOST_CORDS];
        final int[] tights = new int[MOST_CORDS];
        final int[] since = new int[MOST_CORDS];

        void begin(Plan plan) {
            weight = plan.weight;
            driven = 0;
            seconds = 0;
            harms = 0;
            lost = 0;
            for (int c = 0; c < plan.cords && c < MOST_CORDS; c++) {
                ways[c] = plan.ways[c];
                pull(plan, c);
            }
        }

        void pull(Plan plan, int c) {
            if (plan.hasCord(c)) {
                tights[c] = plan.tights[c];
                since[c] = 0;
            }
        }

        void pullAll(Plan plan) {
            for (int c = 0; c < plan.cords && c < MOST_CORDS; c++) {
                pull(plan, c);
            }
        }

        /** HOLD at the FRONT n MILES on, without a STOP. */
        int holdFront(Plan plan, int n) {
            int sum = weight / 2;
            for (int c = 0; c < plan.cords && c < MOST_CORDS; c++) {
                sum += cordFront(ways[c], tightBehind(n, tights[c], since[c], plan.gives[c]));
            }
            return sum;
        }

        int holdBack(Plan plan, int n) {
            int sum = weight - weight / 2;
            for (int c = 0; c < plan.cords && c < MOST_CORDS; c++) {
                sum += cordBack(ways[c], tightBehind(n, tights[c], since[c], plan.gives[c]));
            }
            return sum;
        }

        /** Whether the MILE was driven; else it is LOST. */
        boolean mile(Plan plan, int pace, int moreGust) {
            int r = plan.roadBehind(driven);
            if (!plan.hasRoad(r)) {
                return false;
            }
            int own = Math.min(pace, plan.paces[r]);
            int gust = plan.gusts[r] + moreGust;
            if (liftFront(plan.area, own, gust) > holdFront(plan, 0)
                    || liftBack(plan.area, own, gust) > holdBack(plan, 0)) {
                lost = 1;
                harms++;
                return false;
            }
            if (own > 0) {
                seconds += 3600 / own;
            }
            driven++;
            for (int c = 0; c < plan.cords && c < MOST_CORDS; c++) {
                tights[c] = tightBehind(1, tights[c], since[c], plan.gives[c]);
                since[c]++;
            }
            return true;
        }

        /** The least TIGHT of a CORD by which it HOLDS, all others as now; more than there can be: by none. */
        int tightToHold(Plan plan, int c, int pace, int gust) {
            if (!plan.hasCord(c)) {
                return MOST_TIGHT + 1;
            }
            int way = ways[c];
            int front = liftFront(plan.area, pace, gust) - holdFront(plan, 0) + cordFront(way, tights[c]);
            int back = liftBack(plan.area, pace, gust) - holdBack(plan, 0) + cordBack(way, tights[c]);
            int least = 0;
            if (front > 0) {
                least = way == OVER_FRONT ? front : way == OVER_BACK ? MOST_TIGHT + 1 : 2 * front;
            }
            if (back > 0) {
                // the rest of the half is the greater part: 2 * back - 1 is enough
                int forBack = way == OVER_BACK ? back : way == OVER_FRONT ? MOST_TIGHT + 1 : 2 * back - 1;
                least = Math.max(least, forBack);
            }
            return Math.min(least, MOST_TIGHT + 1);
        }

        void save(int[] rows, int at) {
            if (at < 0 || at > rows.length - SIZE) {
                return;
            }
            rows[at] = weight;
            rows[at + 1] = driven;
            rows[at + 2] = seconds;
            rows[at + 3] = harms;
            rows[at + 4] = lost;
            System.arraycopy(ways, 0, rows, at + 5, MOST_CORDS);
            System.arraycopy(tights, 0, rows, at + 5 + MOST_CORDS, MOST_CORDS);
            System.arraycopy(since, 0, rows, at + 5 + 2 * MOST_CORDS, MOST_CORDS);
        }

        void load(int[] rows, int at) {
            if (at < 0 || at > rows.length - SIZE) {
                return;
            }
            weight = rows[at];
            driven = rows[at + 1];
            seconds = rows[at + 2];
            harms = rows[at + 3];
            lost = rows[at + 4];
            System.arraycopy(rows, at + 5, ways, 0, MOST_CORDS);
            System.arraycopy(rows, at + 5 + MOST_CORDS, tights, 0, MOST_CORDS);
            System.arraycopy(rows, at + 5 + 2 * MOST_CORDS, since, 0, MOST_CORDS);
        }
    }

    /** What was so ahead of each of the latest deeds, in a ring: the oldest falls out. */
    private static final class Deeds {
        final int[] rows = new int[MOST_DEEDS * Now.SIZE];
        int next = 0;
        int count = 0;

        void forget() {
            count = 0;
        }

        void push(Now now) {
            now.save(rows, next * Now.SIZE);
            next = (next + 1) % MOST_DEEDS;
            count = Math.min(count + 1, MOST_DEEDS);
        }

        void pop(Now now, int n) {
            if (n < 1 || n > count) {
                return;
            }
            next = Math.floorMod(next - n, MOST_DEEDS);
            count -= n;
            now.load(rows, next * Now.SIZE);
        }
    }

    private static final class Images {
        final int[] rows = new int[IMAGES * Now.SIZE];
        final int[] seeds = new int[IMAGES];
        final boolean[] kept = new boolean[IMAGES];

        void forget() {
            for (int i = 0; i < IMAGES; i++) {
                kept[i] = false;
            }
        }

        void put(int i, Now now, int drawn) {
            if (i < 0 || i >= IMAGES) {
                return;
            }
            now.save(rows, i * Now.SIZE);
            seeds[i] = drawn;
            kept[i] = true;
        }
    }

    /** What was SEEN. It HOLDS the better the tighter a CORD is, so all that fits lies between a least and a most. */
    private static final class Seen {
        final int[] cords = new int[MOST_SEEN];
        final int[] paces = new int[MOST_SEEN];
        final int[] gusts = new int[MOST_SEEN];
        final boolean[] held = new boolean[MOST_SEEN];
        int count = 0;

        boolean add(int c, int pace, int gust, boolean itHeld) {
            if (count < 0 || count >= MOST_SEEN) {
                return false;
            }
            cords[count] = c;
            paces[count] = pace;
            gusts[count] = gust;
            held[count] = itHeld;
            count++;
            return true;
        }

        int leastTight(Plan plan, Now now, int c) {
            int least = 0;
            for (int i = 0; i < count && i < MOST_SEEN; i++) {
                if (cords[i] == c && held[i]) {
                    least = Math.max(least, now.tightToHold(plan, c, paces[i], gusts[i]));
                }
            }
            return least;
        }

        int mostTight(Plan plan, Now now, int c) {
            int most = MOST_TIGHT;
            for (int i = 0; i < count && i < MOST_SEEN; i++) {
                if (cords[i] == c && !held[i]) {
                    most = Math.min(most, now.tightToHold(plan, c, paces[i], gusts[i]) - 1);
                }
            }
            return most;
        }
    }

    private static final class Book {
        final int[] cords = new int[MOST_ENTRIES];
        final int[] tights = new int[MOST_ENTRIES];
        int count = 0;

        boolean add(int c, int tight) {
            if (count < 0 || count >= MOST_ENTRIES) {
                return false;
            }
            cords[count] = c;
            tights[count] = tight;
            count++;
            return true;
        }

        int firstWrong(Now now) {
            for (int i = 0; i < count && i < MOST_ENTRIES; i++) {
                int c = cords[i];
                if (c >= 0 && c < MOST_CORDS && now.tights[c] != tights[i]) {
                    return i;
                }
            }
            return NONE;
        }
    }

    /**
     * The MILES left, driven in thought with the fewest STOPS. A later STOP leaves every CORD at least as TIGHT
     * on all MILES behind it, so stopping only where it would not HOLD is fewest, and the first as late as can be.
     */
    private static final class Ride {
        final int[] frontNow = new int[MOST_MILES];
        final int[] backNow = new int[MOST_MILES];
        final int[] frontPulled = new int[MOST_MILES];
        final int[] backPulled = new int[MOST_MILES];
        final Now fresh = new Now();
        int mile = 0;
        int pulledAt = NONE;
        int pulls = 0;
        int firstPull = NONE;
        int seconds = 0;

        /** HOLD by MILES without a STOP, from now and from a STOP: the same for every PACE. */
        void prepare(Plan plan, Now now, int left) {
            fresh.begin(plan);
            fresh.weight = now.weight;
            System.arraycopy(now.ways, 0, fresh.ways, 0, MOST_CORDS);
            for (int n = 0; n < left && n < MOST_MILES; n++) {
                frontNow[n] = now.holdFront(plan, n);
                backNow[n] = now.holdBack(plan, n);
                frontPulled[n] = fresh.holdFront(plan, n);
                backPulled[n] = fresh.holdBack(plan, n);
            }
        }

        /** Whether it can be at this PACE; then pulls, firstPull and seconds tell how. */
        boolean goes(Plan plan, int driven, int pace) {
            mile = 0;
            pulledAt = NONE;
            pulls = 0;
            firstPull = NONE;
            seconds = 0;
            int behind = driven;
            for (int r = 0; r < plan.roads && r < MOST_ROADS; r++) {
                int here = Math.max(0, plan.miles[r] - behind);
                behind = Math.max(0, behind - plan.miles[r]);
                if (!goesOver(plan, r, here, pace)) {
                    return false;
                }
            }
            seconds += pulls * plan.stopSeconds;
            return true;
        }

        private boolean goesOver(Plan plan, int r, int here, int pace) {
            if (!plan.hasRoad(r)) {
                return false;
            }
            int own = Math.min(pace, plan.paces[r]);
            int front = liftFront(plan.area, own, plan.gusts[r]);
            int back = liftBack(plan.area, own, plan.gusts[r]);
            for (int i = 0; i < here; i++) {
                if (!holdsNext(front, back)) {
                    pullAhead();
                    if (!holdsNext(front, back)) {
                        return false;
                    }
                }
                mile++;
            }
            if (own > 0) {
                seconds += here * (3600 / own);
            }
            return true;
        }

        private boolean holdsNext(int front, int back) {
            int since = pulledAt == NONE ? mile : mile - pulledAt;
            if (since < 0 || since >= MOST_MILES) {
                return false;
            }
            if (pulledAt == NONE) {
                return front <= frontNow[since] && back <= backNow[since];
            }
            return front <= frontPulled[since] && back <= backPulled[since];
        }

        private void pullAhead() {
            pulledAt = mile;
            pulls++;
            if (firstPull == NONE) {
                firstPull = mile;
            }
        }
    }
}
