import java.util.ArrayList;
import java.util.List;
import java.util.Random;

/** Long random runs, each call answered by the class and by a plain model that tries everything out. */
public final class ModelTest {
    static final int NONE = -1, UNKNOWN = -1000000001, OUTSIDE = -1000000002, NOT = -1000000003, FULL = -1000000004;
    static final int RUNS = 2500, CALLS = 512;

    public static void main(String[] args) {
        long calls = 0;
        for (int run = 0; run < RUNS; run++) {
            Run r = new Run(run);
            for (int i = 0; i < CALLS; i++) {
                String wrong = r.step();
                if (wrong != null) {
                    System.out.println("run " + run + ", call " + i + ": " + wrong);
                    for (String s : r.log.subList(Math.max(0, r.log.size() - 40), r.log.size())) {
                        System.out.println("   " + s);
                    }
                    System.exit(1);
                }
                calls++;
            }
        }
        System.out.println("ModelTest: " + calls + " answers are as the model's");
    }

    /** All of section 2. */
    static final class State {
        int weight, driven, seconds, harms;
        boolean lost;
        int[] way = new int[0], tight = new int[0], since = new int[0];

        State copy() {
            State s = new State();
            s.weight = weight;
            s.driven = driven;
            s.seconds = seconds;
            s.harms = harms;
            s.lost = lost;
            s.way = way.clone();
            s.tight = tight.clone();
            s.since = since.clone();
            return s;
        }
    }

    static final class Model {
        String text = "";
        int[] load;
        List<int[]> cords = new ArrayList<>(), roads = new ArrayList<>();
        int faultAt = NONE;
        State s = new State();
        List<State> undo = new ArrayList<>();
        List<int[]> seen = new ArrayList<>(), book = new ArrayList<>();
        State[] image = new State[2];
        int[] imageSeed = new int[2];
        int seed;

        static boolean in(int v, int a, int b) {
            return a <= v && v <= b;
        }

        boolean cordThere(int c) {
            return in(c, 0, cords.size() - 1);
        }

        int feed(int letter) {
            if (!in(letter, 0, 255)) return OUTSIDE;
            if (text.length() == 200) return FULL;
            text += (char) letter;
            return text.length();
        }

        int trip() {
            String t = text;
            text = "";
            int[] newLoad = null;
            List<int[]> newCords = new ArrayList<>(), newRoads = new ArrayList<>();
            List<int[]> tokens = tokens(t);
            faultAt = NONE;
            for (int k = 0; tokens.get(k)[1] != 'E'; k += 5) {
                int word = tokens.get(k)[1];
                if ("lcr".indexOf(word) < 0 || (newLoad == null) && word != 'l') return faulty(1, tokens.get(k));
                if (word == 'l' && newLoad != null || newCords.size() == 4 && word == 'c' || newRoads.size() == 6 && word == 'r')
                    return faulty(3, tokens.get(k));
                int[][] bounds = word == 'l' ? new int[][] {{1, 99}, {1, 40}, {0, 999}}
                        : word == 'c' ? new int[][] {{0, 3}, {0, 99}, {0, 9}} : new int[][] {{1, 20}, {10, 70}, {0, 30}};
                int[] values = new int[3];
                for (int j = 1; j <= 3; j++) {
                    int[] token = tokens.get(k + j);
                    if (token[1] != 'N') return faulty(1, token);
                    if (token[3] > 3 || !in(token[2], bounds[j - 1][0], bounds[j - 1][1])) return faulty(2, token);
                    values[j - 1] = token[2];
                }
                if (tokens.get(k + 4)[1] != ';') return faulty(1, tokens.get(k + 4));
                if (word == 'l') newLoad = values;
                if (word == 'c') newCords.add(values);
                if (word == 'r') newRoads.add(values);
            }
            load = newLoad;
            cords = newCords;
            roads = newRoads;
            s = new State();
            s.weight = load == null ? 0 : load[0];
            s.way = new int[cords.size()];
            s.tight = new int[cords.size()];
            s.since = new int[cords.size()];
            for (int c = 0; c < cords.size(); c++) {
                s.way[c] = cords.get(c)[0];
                s.tight[c] = cords.get(c)[1];
            }
            undo.clear();
            seen.clear();
            book.clear();
            image = new State[2];
            return miles();
        }

        int faulty(int number, int[] token) {
            faultAt = token[0];
            return -10 - number;
        }

        /** Place, kind (a letter, N number, E end, ? a capital that would be taken for these), value, figures. */
        static List<int[]> tokens(String t) {
            List<int[]> all = new ArrayList<>();
            for (int i = 0; i < t.length();) {
                char ch = t.charAt(i);
                int j = i;
                while (j < t.length() && t.charAt(j) >= '0' && t.charAt(j) <= '9') j++;
                if (j > i) {
                    String figures = t.substring(i, j);
                    all.add(new int[] {i, 'N', Integer.parseInt(figures.substring(0, Math.min(3, j - i))), j - i});
                    i = j;
                } else {
                    if (ch != ' ') all.add(new int[] {i, ch == 'N' || ch == 'E' ? '?' : ch, 0, 0});
                    i++;
                }
            }
            all.add(new int[] {t.length(), 'E', 0, 0});
            return all;
        }

        int miles() {
            return roads.stream().mapToInt(r -> r[0]).sum();
        }

        int left() {
            return miles() - s.driven;
        }

        int[] roadOf(int mile) {
            for (int[] r : roads) {
                if (mile < r[0]) return r;
                mile -= r[0];
            }
            return null;
        }

        int told(int what) {
            int[] l = load == null ? new int[3] : load;
            int[] all = {s.weight, l[1], l[2], cords.size(), roads.size(), text.length(), s.driven, left(),
                left() == 0 ? NONE : roads.indexOf(roadOf(s.driven)), s.seconds, s.harms, s.lost ? 1 : 0,
                seen.size(), book.size(), undo.size()};
            return in(what, 0, 14) ? all[what] : OUTSIDE;
        }

        int cord(int c, int what) {
            if (!cordThere(c)) return UNKNOWN;
            if (!in(what, 0, 4)) return OUTSIDE;
            return new int[] {s.way[c], cords.get(c)[1], cords.get(c)[2], s.tight[c], s.since[c]}[what];
        }

        int road(int r, int what) {
            if (!in(r, 0, roads.size() - 1)) return UNKNOWN;
            return in(what, 0, 2) ? roads.get(r)[what] : OUTSIDE;
        }

        int[] lifts(int pace, int gust) {
            int all = load[1] * (pace + gust) * (pace + gust) / 400;
            int front = 2 * all / 3;
            return new int[] {front, all - front};
        }

        static int[] holds(State s) {
            int front = s.weight / 2, back = s.weight - front;
            for (int c = 0; c < s.way.length; c++) {
                int half = s.tight[c] / 2, rest = s.tight[c] - half;
                switch (s.way[c]) {
                    case 0 -> front += s.tight[c];
                    case 2 -> back += s.tight[c];
                    default -> {
                        front += half;
                        back += rest;
                    }
                }
            }
            return new int[] {front, back};
        }

        boolean holdsAt(State s, int pace, int gust, int hand) {
            int[] l = lifts(pace, gust), h = holds(s);
            return l[0] <= h[0] + hand && l[1] <= h[1];
        }

        int lift(int pace, int gust, int what) {
            if (!in(pace, 0, 99) || !in(gust, 0, 30) || !in(what, 0, 4)) return OUTSIDE;
            if (load == null) return NOT;
            return what < 2 ? lifts(pace, gust)[what] : what < 4 ? holds(s)[what - 2] : holdsAt(s, pace, gust, 0) ? 1 : 0;
        }

        void wear(State s) {
            for (int c = 0; c < s.way.length; c++) {
                int g = cords.get(c)[2];
                s.tight[c] -= s.since[c] < 4 ? 2 * g : g;
                if (s.tight[c] < 0) s.tight[c] = 0;
                s.since[c]++;
            }
        }

        void pullOne(State s, int c) {
            s.tight[c] = cords.get(c)[1];
            s.since[c] = 0;
        }

        void pullAll(State s) {
            for (int c = 0; c < s.way.length; c++) pullOne(s, c);
        }

        void deed() {
            undo.add(s.copy());
            if (undo.size() > 30) undo.remove(0);
        }

        int drive(int n, int pace, boolean draws) {
            if (!in(n, 1, 30) || !in(pace, 10, 70)) return OUTSIDE;
            if (load == null || left() == 0 || s.lost) return NOT;
            int done = 0;
            while (done < n && left() > 0 && !s.lost) {
                deed();
                int[] r = roadOf(s.driven);
                int gust = r[2];
                if (draws) {
                    seed = (int) ((seed * 1103515245L + 12345) % 2147483648L);
                    gust += seed / 65536 % 11;
                }
                int p = Math.min(pace, r[1]);
                if (holdsAt(s, p, gust, 0)) {
                    s.driven++;
                    s.seconds += 3600 / p;
                    wear(s);
                    done++;
                } else {
                    s.lost = true;
                    s.harms++;
                }
            }
            return done;
        }

        int stop() {
            if (load == null || s.lost) return NOT;
            if (s.seconds > 900000) return FULL;
            deed();
            pullAll(s);
            return s.seconds += load[2];
        }

        int rain(int r) {
            if (!in(r, 1, 99)) return OUTSIDE;
            if (load == null) return NOT;
            deed();
            s.weight += r;
            if (s.weight > 999) s.weight = 999;
            return s.weight;
        }

        int runs(int c, int way) {
            if (!cordThere(c)) return UNKNOWN;
            if (!in(way, 0, 3)) return OUTSIDE;
            if (s.lost) return NOT;
            if (s.seconds > 900000) return FULL;
            deed();
            int ran = s.way[c];
            s.way[c] = way;
            pullOne(s, c);
            s.seconds += load[2];
            return ran;
        }

        int pick() {
            if (!s.lost) return NOT;
            if (s.seconds > 900000) return FULL;
            deed();
            s.lost = false;
            pullAll(s);
            s.seconds += load[2] + load[2];
            return s.harms;
        }

        int undo(int n) {
            if (!in(n, 1, 30)) return OUTSIDE;
            if (undo.size() < n) return NOT;
            for (int i = 0; i < n; i++) s = undo.remove(undo.size() - 1);
            return s.driven;
        }

        int highestOf(State s, int gust, int hand) {
            for (int pace = 70; pace >= 10; pace--) if (holdsAt(s, pace, gust, hand)) return pace;
            return NONE;
        }

        int highest(int gust) {
            if (!in(gust, 0, 30)) return OUTSIDE;
            return load == null ? NOT : highestOf(s, gust, 0);
        }

        int slack(int c, int n) {
            if (!cordThere(c)) return UNKNOWN;
            if (!in(n, 0, 99)) return OUTSIDE;
            State t = s.copy();
            for (int i = 0; i < n; i++) wear(t);
            return t.tight[c];
        }

        int far(int pace, int gust) {
            if (!in(pace, 10, 70) || !in(gust, 0, 30)) return OUTSIDE;
            if (load == null) return NOT;
            State t = s.copy();
            int n = 0;
            while (n < 99 && holdsAt(t, pace, gust, 0)) {
                n++;
                wear(t);
            }
            return n;
        }

        /** Fewest STOPS and the latest first one, by trying each MILE for each STOP; null: it cannot be. */
        int[] stopsAt(int pace) {
            int n = left();
            State pulled = s.copy();
            pullAll(pulled);
            int[] fewest = new int[n + 1];
            for (int from = n - 1; from >= 0; from--) {
                fewest[from] = fewestFrom(pulled, from, pace, fewest);
            }
            int best = fewestFrom(s, 0, pace, fewest);
            if (best >= 1000) return null;
            int first = NONE;
            State t = s.copy();
            for (int k = 0; k < n && best > 0; k++) {
                if (fewest[k] + 1 == best) first = k;
                if (!mileHolds(t, k, pace)) break;
                wear(t);
            }
            return new int[] {best, first};
        }

        int fewestFrom(State start, int from, int pace, int[] fewest) {
            State t = start.copy();
            int best = 1000;
            for (int k = from; k < left(); k++) {
                boolean pulledHere = k == from && start != s;
                if (!pulledHere) best = Math.min(best, fewest[k] + 1);
                if (!mileHolds(t, k, pace)) return best;
                wear(t);
            }
            return 0;
        }

        boolean mileHolds(State t, int k, int pace) {
            int[] r = roadOf(s.driven + k);
            return holdsAt(t, Math.min(pace, r[1]), r[2], 0);
        }

        int stops(int pace, int what) {
            if (!in(pace, 10, 70) || !in(what, 0, 1)) return OUTSIDE;
            if (load == null || s.lost) return NOT;
            int[] all = stopsAt(pace);
            return all == null ? -2 : all[what];
        }

        int soonest(int what) {
            if (!in(what, 0, 1)) return OUTSIDE;
            if (load == null || s.lost) return NOT;
            int[] best = {NONE, NONE};
            for (int pace = 70; pace >= 10; pace--) {
                int[] all = stopsAt(pace);
                if (all == null) continue;
                int seconds = all[0] * load[2];
                for (int k = 0; k < left(); k++) seconds += 3600 / Math.min(pace, roadOf(s.driven + k)[1]);
                if (best[0] == NONE || seconds <= best[1]) best = new int[] {pace, seconds};
            }
            return best[what];
        }

        int[] best;
        int bestPace;

        int where(int gust, int c) {
            if (c != NONE && !cordThere(c)) return UNKNOWN;
            if (!in(gust, 0, 30)) return OUTSIDE;
            if (load == null) return NOT;
            State t = s.copy();
            pullAll(t);
            best = null;
            tryWays(t, 0, gust);
            return c == NONE ? bestPace : best[c];
        }

        void tryWays(State t, int c, int gust) {
            if (c == cords.size()) {
                int pace = highestOf(t, gust, 0);
                if (best == null || pace > bestPace) {
                    best = t.way.clone();
                    bestPace = pace;
                }
                return;
            }
            for (int w = 0; w < 4; w++) {
                t.way[c] = w;
                tryWays(t, c + 1, gust);
            }
        }

        int hand(int h, int gust) {
            if (!in(h, 0, 99) || !in(gust, 0, 30)) return OUTSIDE;
            if (load == null) return NOT;
            int without = highestOf(s, gust, 0), with = highestOf(s, gust, h);
            return with == NONE ? NONE : without == NONE ? with - 9 : with - without;
        }

        int van(int x, int q, int y) {
            if (!in(x, 0, 999) || !in(q, 0, 100) || !in(y, 0, 9999)) return OUTSIDE;
            return x < (q * y) / 100 ? 1 : 0;
        }

        int knots(int n, int q) {
            if (!in(n, 0, 60) || !in(q, 0, 100)) return OUTSIDE;
            long odds = 1000000000;
            for (int c = 0; c < cords.size(); c++) for (int i = 0; i < n; i++) odds = odds * (100 - q) / 100;
            return (int) odds;
        }

        int see(int c, int pace, int gust, boolean held) {
            if (!cordThere(c)) return UNKNOWN;
            if (!in(pace, 10, 70) || !in(gust, 0, 30)) return OUTSIDE;
            if (seen.size() == 6) return FULL;
            seen.add(new int[] {c, pace, gust, held ? 1 : 0});
            return seen.size();
        }

        List<Integer> fits(int c) {
            List<Integer> all = new ArrayList<>();
            State t = s.copy();
            for (t.tight[c] = 0; t.tight[c] <= 99; t.tight[c]++) {
                boolean fits = true;
                for (int[] e : seen) if (e[0] == c && holdsAt(t, e[1], e[2], 0) != (e[3] == 1)) fits = false;
                if (fits) all.add(t.tight[c]);
            }
            return all;
        }

        int was(int c, int what) {
            if (!cordThere(c)) return UNKNOWN;
            if (!in(what, 0, 2)) return OUTSIDE;
            List<Integer> all = fits(c);
            if (what == 0) return all.size();
            return all.isEmpty() ? NONE : all.get(what == 1 ? 0 : all.size() - 1);
        }

        int tries(int c, int gust) {
            if (!cordThere(c)) return UNKNOWN;
            if (!in(gust, 0, 30)) return OUTSIDE;
            List<Integer> all = fits(c);
            State t = s.copy();
            int pace = NONE, least = 0;
            for (int p = 10; p <= 70; p++) {
                int yes = 0;
                for (int tight : all) {
                    t.tight[c] = tight;
                    if (holdsAt(t, p, gust, 0)) yes++;
                }
                int part = Math.max(yes, all.size() - yes);
                boolean parts = yes > 0 && yes < all.size();
                if (parts && (pace == NONE || part < least)) {
                    pace = p;
                    least = part;
                }
            }
            return pace;
        }

        int write(int c, int tight) {
            if (!cordThere(c)) return UNKNOWN;
            if (!in(tight, 0, 99)) return OUTSIDE;
            if (book.size() == 20) return FULL;
            book.add(new int[] {c, tight});
            return book.size();
        }

        int judge() {
            for (int i = 0; i < book.size(); i++) if (s.tight[book.get(i)[0]] != book.get(i)[1]) return i;
            return NONE;
        }

        int tear() {
            int n = seen.size() + book.size();
            seen.clear();
            book.clear();
            return n;
        }

        int seed(int v) {
            if (v < 0) return OUTSIDE;
            int was = seed;
            seed = v;
            return was;
        }

        int keep(int i) {
            if (!in(i, 0, 1)) return UNKNOWN;
            image[i] = s.copy();
            imageSeed[i] = seed;
            undo.clear();
            return 1;
        }

        int goBack(int i) {
            if (!in(i, 0, 1)) return UNKNOWN;
            if (image[i] == null) return NOT;
            s = image[i].copy();
            seed = imageSeed[i];
            undo.clear();
            return 1;
        }
    }

    /** One object beside one model. */
    static final class Run {
        final Random random;
        final RoofMattress x = new RoofMattress();
        final Model m = new Model();
        final List<String> log = new ArrayList<>();
        String pending;
        int at;

        Run(int number) {
            random = new Random(number);
            pending = text();
        }

        String step() {
            if (pending != null) {
                if (at < pending.length()) {
                    int letter = pending.charAt(at++);
                    return same("feed(" + letter + ")", x.feed(letter), m.feed(letter));
                }
                pending = null;
                return same("trip()", x.trip(), m.trip());
            }
            if (random.nextInt(150) == 0) {
                pending = text();
                at = 0;
            }
            return call();
        }

        String same(String call, int got, int want) {
            log.add(call + " = " + got);
            return got == want ? null : call + " answered " + got + ", the model " + want;
        }

        /** Mostly within the bounds, now and then beside or far beyond them. */
        int pick(int least, int most) {
            int k = random.nextInt(60);
            if (k == 0) return least - 1;
            if (k == 1) return most + 1;
            if (k == 2) return random.nextInt();
            if (k == 3) return least;
            if (k == 4) return most;
            return least + random.nextInt(most - least + 1);
        }

        int cordNumber() {
            return pick(0, Math.max(0, m.cords.size() - 1));
        }

        String call() {
            int a, b, c;
            switch (random.nextInt(36)) {
                case 0: a = pick(0, 255); return same("feed(" + a + ")", x.feed(a), m.feed(a));
                case 1: return random.nextInt(20) > 0 ? same("fault()", x.fault(), m.faultAt) : same("trip()", x.trip(), m.trip());
                case 2: return same("fault()", x.fault(), m.faultAt);
                case 3: case 4: a = pick(0, 14); return same("told(" + a + ")", x.told(a), m.told(a));
                case 5: a = cordNumber(); b = pick(0, 4); return same("cord(" + a + ", " + b + ")", x.cord(a, b), m.cord(a, b));
                case 6: a = pick(0, 5); b = pick(0, 2); return same("road(" + a + ", " + b + ")", x.road(a, b), m.road(a, b));
                case 7: a = pick(0, 99); b = pick(0, 30); c = pick(0, 4);
                    return same("lift(" + a + ", " + b + ", " + c + ")", x.lift(a, b, c), m.lift(a, b, c));
                case 8: case 9: a = random.nextBoolean() ? pick(1, 3) : pick(1, 30); b = random.nextBoolean() ? pick(10, 30) : pick(10, 70);
                    return same("drive(" + a + ", " + b + ")", x.drive(a, b), m.drive(a, b, false));
                case 10: return same("stop()", x.stop(), m.stop());
                case 11: a = pick(1, 99); return same("rain(" + a + ")", x.rain(a), m.rain(a));
                case 12: a = cordNumber(); b = pick(0, 3); return same("runs(" + a + ", " + b + ")", x.runs(a, b), m.runs(a, b));
                case 13: return same("pick()", x.pick(), m.pick());
                case 14: a = pick(1, 30); b = random.nextBoolean() ? pick(10, 30) : pick(10, 70);
                    return same("drift(" + a + ", " + b + ")", x.drift(a, b), m.drive(a, b, true));
                case 15: a = random.nextBoolean() ? pick(1, 4) : pick(1, 30); return same("undo(" + a + ")", x.undo(a), m.undo(a));
                case 16: a = pick(0, 30); return same("highest(" + a + ")", x.highest(a), m.highest(a));
                case 17: a = cordNumber(); b = pick(0, 99); return same("slack(" + a + ", " + b + ")", x.slack(a, b), m.slack(a, b));
                case 18: a = pick(10, 70); b = pick(0, 30); return same("far(" + a + ", " + b + ")", x.far(a, b), m.far(a, b));
                case 19: case 20: a = pick(10, 70); b = pick(0, 1); return same("stops(" + a + ", " + b + ")", x.stops(a, b), m.stops(a, b));
                case 21: a = pick(0, 1); if (random.nextInt(4) > 0) return null;
                    return same("soonest(" + a + ")", x.soonest(a), m.soonest(a));
                case 22: a = pick(0, 30); b = pick(-1, m.cords.size() - 1); if (random.nextInt(4) > 0) return null;
                    return same("where(" + a + ", " + b + ")", x.where(a, b), m.where(a, b));
                case 23: a = pick(0, 99); b = pick(0, 30); return same("hand(" + a + ", " + b + ")", x.hand(a, b), m.hand(a, b));
                case 24: a = pick(0, 999); b = pick(0, 100); c = random.nextInt(3) > 0 && b > 0 && Math.abs(a) < 999 && b < 101 ? a * 100 / b + pick(0, 2) : pick(0, 9999);
                    return same("van(" + a + ", " + b + ", " + c + ")", x.van(a, b, c), m.van(a, b, c));
                case 25: a = pick(0, 60); b = random.nextBoolean() ? pick(0, 5) : pick(0, 100);
                    return same("knots(" + a + ", " + b + ")", x.knots(a, b), m.knots(a, b));
                case 26: case 27: return look();
                case 28: a = cordNumber(); b = pick(0, 2); return same("was(" + a + ", " + b + ")", x.was(a, b), m.was(a, b));
                case 29: a = cordNumber(); b = pick(0, 30); return same("tries(" + a + ", " + b + ")", x.tries(a, b), m.tries(a, b));
                case 30: a = cordNumber(); b = m.cordThere(a) && random.nextInt(4) > 0 ? m.s.tight[a] : pick(0, 99);
                    return same("write(" + a + ", " + b + ")", x.write(a, b), m.write(a, b));
                case 31: return same("judge()", x.judge(), m.judge());
                case 32: if (random.nextInt(4) > 0) return null;
                    return same("tear()", x.tear(), m.tear());
                case 33: a = random.nextInt(3) == 0 ? random.nextInt() : pick(0, Integer.MAX_VALUE - 1);
                    return same("seed(" + a + ")", x.seed(a), m.seed(a));
                case 34: a = pick(0, 1); if (random.nextInt(3) > 0) return null;
                    return same("keep(" + a + ")", x.keep(a), m.keep(a));
                default: a = pick(0, 1); return same("goBack(" + a + ")", x.goBack(a), m.goBack(a));
            }
        }

        /** Half of what is seen fits a tightness that could be, so that a few stay left. */
        String look() {
            int c = cordNumber(), pace = pick(10, 70), gust = pick(0, 30);
            boolean held = random.nextBoolean();
            if (m.cordThere(c) && random.nextInt(4) > 0) {
                State t = m.s.copy();
                t.tight[c] = 40;
                held = m.holdsAt(t, pace, gust, 0);
            }
            return same("see(" + c + ", " + pace + ", " + gust + ", " + held + ")", x.see(c, pace, gust, held), m.see(c, pace, gust, held));
        }

        String text() {
            StringBuilder t = new StringBuilder();
            int kind = random.nextInt(4);
            blanks(t);
            t.append('l');
            numbers(t, kind == 0 ? 1 : 20, 99, 1, kind == 0 ? 40 : 12, 0, random.nextBoolean() ? 999 : 60);
            int cords = random.nextInt(6) == 0 ? random.nextInt(7) : 1 + random.nextInt(4), roads = 1 + random.nextInt(random.nextInt(8) == 0 ? 8 : 6);
            while (cords + roads > 0) {
                blanks(t);
                if (random.nextInt(cords + roads) < cords) {
                    t.append('c');
                    numbers(t, 0, 3, 0, 99, 0, random.nextBoolean() ? 9 : 3);
                    cords--;
                } else {
                    t.append('r');
                    numbers(t, 1, random.nextBoolean() ? 20 : 5, 10, 70, 0, random.nextInt(3) * 15);
                    roads--;
                }
            }
            blanks(t);
            return spoil(t);
        }

        String spoil(StringBuilder t) {
            int n = random.nextInt(5) > 0 ? 0 : 1 + random.nextInt(3);
            for (int i = 0; i < n; i++) {
                int p = random.nextInt(t.length());
                char ch = "lcr;0123456789  xNEC".charAt(random.nextInt(20));
                switch (random.nextInt(5)) {
                    case 0 -> t.setLength(p + 1);
                    case 1 -> t.deleteCharAt(p);
                    case 2 -> t.setCharAt(p, ch);
                    default -> t.insert(p, ch);
                }
                if (t.length() == 0) t.append(' ');
            }
            return t.substring(0, Math.min(200, t.length()));
        }

        void numbers(StringBuilder t, int... bounds) {
            for (int k = 0; k < 6; k += 2) {
                if (k > 0) t.append(' ');
                blanks(t);
                int v = bounds[k] + random.nextInt(bounds[k + 1] - bounds[k] + 1);
                if (random.nextInt(25) == 0) t.append('0');
                t.append(v);
            }
            blanks(t);
            t.append(';');
        }

        void blanks(StringBuilder t) {
            while (random.nextInt(20) == 0) t.append(' ');
        }
    }
}
