import java.math.BigInteger;
import java.util.ArrayList;
import java.util.Arrays;
import java.util.HashMap;
import java.util.HashSet;
import java.util.List;
import java.util.Map;
import java.util.Set;

/**
 * The document read word by word, run by run and place by place, as slow as that is: what
 * HullEars answers is held against it. It shares no code with it.
 */
final class PlainEars {
    /** All that an image keeps. */
    private static final class State {
        int[][] boats = {{0, 0, 5}, {0, 0, 5}};
        List<List<int[]>> legs = List.of(new ArrayList<>(), new ArrayList<>());
        int[] terms = {1, 1, 0, 5, 4, 6};
        int day = 0;
        int[][] slow = new int[3][10];
        List<int[]> heard = new ArrayList<>();
        List<int[]> echoes = new ArrayList<>();
        List<int[]> wrecks = new ArrayList<>();
        List<int[]> shoals = new ArrayList<>();
        List<int[]> guesses = new ArrayList<>();
        List<int[]> offers = new ArrayList<>();
        List<Integer> beats = new ArrayList<>();
        List<int[]> cells = new ArrayList<>();
        List<PlainLaw.Clause> law = List.of();

        State() {
            for (int[] layers : slow) {
                Arrays.fill(layers, 100);
            }
        }

        State copy() {
            State c = new State();
            c.boats = new int[][] {boats[0].clone(), boats[1].clone()};
            c.legs = List.of(new ArrayList<>(legs.get(0)), new ArrayList<>(legs.get(1)));
            c.terms = terms.clone();
            c.day = day;
            c.slow = new int[][] {slow[0].clone(), slow[1].clone(), slow[2].clone()};
            c.heard = new ArrayList<>(heard);
            c.echoes = new ArrayList<>(echoes);
            c.wrecks = new ArrayList<>(wrecks);
            c.shoals = new ArrayList<>(shoals);
            c.guesses = new ArrayList<>(guesses);
            c.offers = new ArrayList<>(offers);
            c.beats = new ArrayList<>(beats);
            c.cells = new ArrayList<>(cells);
            c.law = law;
            return c;
        }
    }

    private State s = new State();
    private final State[] images = new State[2];
    private final StringBuilder tape = new StringBuilder();
    private int fault = -1;
    private int torn = 0;
    private int status = 0;
    private final Map<Integer, Integer> refused = new HashMap<>();
    private List<int[]> fitting = null;
    private int[] allMisses = null;
    private final Map<Integer, Boolean> reached = new HashMap<>();

    private int refuse(int why) {
        status = why;
        refused.merge(why, 1, Integer::sum);
        return why;
    }

    private int good(int answer) {
        status = 0;
        fitting = null;
        allMisses = null;
        reached.clear();
        return answer;
    }

    private static boolean in(int n, int a, int b) {
        return a <= n && n <= b;
    }

    // ---- boats, terms, water ----

    int boat(int b, int x, int y, int depth) {
        if (!in(x, 0, 31) || !in(y, 0, 31) || !in(depth, 0, 9)) return refuse(-1);
        if (!in(b, 0, 1)) return refuse(-2);
        int had = s.legs.get(b).size();
        s.legs.get(b).clear();
        s.boats[b] = new int[] {x, y, depth};
        return good(had);
    }

    int leg(int b, int bell, int u, int v) {
        if (!in(bell, 0, 23) || !in(u, -3, 3) || !in(v, -3, 3)) return refuse(-1);
        if (!in(b, 0, 1)) return refuse(-2);
        List<int[]> legs = s.legs.get(b);
        for (int[] l : legs) {
            if (l[0] >= bell) return refuse(-3);
        }
        if (legs.size() == 6) return refuse(-5);
        legs.add(new int[] {bell, u, v});
        return good(legs.size());
    }

    private int at(int b, int bell, int axis) {
        int place = s.boats[b][axis];
        for (int t = 0; t < bell; t++) {
            int step = 0;
            for (int[] l : s.legs.get(b)) {
                if (l[0] <= t) step = l[1 + axis];
            }
            place += step;
        }
        return place;
    }

    private int speed(int b, int bell) {
        int found = 0;
        for (int[] l : s.legs.get(b)) {
            if (l[0] <= bell) found = Math.max(Math.abs(l[1]), Math.abs(l[2]));
        }
        return found;
    }

    int where(int b, int bell, int what) {
        if (!in(b, 0, 1) || !in(bell, 0, 23) || !in(what, 0, 2)) return -1000;
        return what == 2 ? speed(b, bell) : at(b, bell, what);
    }

    int terms(int what, int value) {
        int[] low = {0, 0, 0, 0, 1, 0};
        int[] high = {20, 9, 3, 9, 23, 40};
        if (!in(what, 0, 5) || !in(value, low[what], high[what])) return refuse(-1);
        int was = s.terms[what];
        s.terms[what] = value;
        return good(was);
    }

    int day(int day) {
        if (!in(day, 0, 2)) return refuse(-1);
        int was = s.day;
        s.day = day;
        return good(was);
    }

    int layer(int depth, int slow) {
        if (!in(depth, 0, 9) || !in(slow, 0, 200)) return refuse(-1);
        int was = s.slow[s.day][depth];
        s.slow[s.day][depth] = slow;
        return good(was);
    }

    private boolean sound(int from, int to, int range) {
        return reached.computeIfAbsent((from * 10 + to) * 1000 + range, k -> soundAfresh(from, to, range));
    }

    private boolean soundAfresh(int from, int to, int range) {
        int[] slow = s.slow[s.day];
        for (int first = -2; first <= 2; first++) {
            int d = from;
            int slope = first;
            for (int step = 0; step < range; step++) {
                int below = d == 9 ? slow[9] : slow[d + 1];
                int above = d == 0 ? slow[0] : slow[d - 1];
                if (below > above && slope < 2) slope++;
                else if (below < above && slope > -2) slope--;
                d += slope;
                if (d < 0) {
                    d = -d;
                    slope = -slope;
                }
                if (d > 9) {
                    d = 9 - (d - 9);
                    slope = -slope;
                }
            }
            if (Math.abs(d - to) <= 1) return true;
        }
        return false;
    }

    int reaches(int from, int to, int range) {
        if (!in(from, 0, 9) || !in(to, 0, 9) || !in(range, 0, 200)) return -1;
        return soundAfresh(from, to, range) ? 1 : 0;
    }

    private static int[] rose(int d) {
        if (d < 20) return new int[] {d - 10, 10};
        if (d < 40) return new int[] {10, 30 - d};
        if (d < 60) return new int[] {50 - d, -10};
        return new int[] {-10, d - 70};
    }

    private static final int[][] ROSE = new int[80][];
    static {
        for (int d = 0; d < 80; d++) ROSE[d] = rose(d);
    }

    /** At d, or between d and the next: not left of d's ray, and left of the next one's. */
    private static int direction(int x, int y) {
        for (int d = 0; d < 80; d++) {
            int[] a = ROSE[d];
            int[] b = ROSE[(d + 1) % 80];
            boolean ahead = a[0] * x + a[1] * y > 0;
            if (ahead && a[0] * y - a[1] * x <= 0 && b[0] * y - b[1] * x > 0) return d;
        }
        return -1;
    }

    private final int[] directions = new int[401 * 401];

    private int bearingOf(int x, int y) {
        int k = (x + 200) * 401 + y + 200;
        if (directions[k] == 0) directions[k] = direction(x, y) + 2;
        return directions[k] - 2;
    }

    int bearing(int x, int y) {
        if (!in(x, -1000, 1000) || !in(y, -1000, 1000)) return -1;
        return direction(x, y);
    }

    private static int far(int a, int b) {
        int way = Math.abs(a - b);
        return Math.min(way, 80 - way);
    }

    private static int range(int x, int y) {
        return Math.max(Math.abs(x), Math.abs(y));
    }

    // ---- what is heard ----

    int heard(int b, int bell, int direction) {
        if (!in(bell, 0, 23) || !in(direction, 0, 79)) return refuse(-1);
        if (!in(b, 0, 1)) return refuse(-2);
        if (s.heard.size() == 24) return refuse(-5);
        s.heard.add(new int[] {b, bell, direction});
        return good(s.heard.size() - 1);
    }

    int echo(int b, int bell, int distance) {
        if (!in(bell, 0, 23) || !in(distance, 0, 99)) return refuse(-1);
        if (!in(b, 0, 1)) return refuse(-2);
        if (s.echoes.size() == 12) return refuse(-5);
        s.echoes.add(new int[] {b, bell, distance});
        return good(s.echoes.size() - 1);
    }

    int wreck(int x, int y) {
        if (!in(x, 0, 31) || !in(y, 0, 31)) return refuse(-1);
        if (s.wrecks.size() == 8) return refuse(-5);
        s.wrecks.add(new int[] {x, y});
        return good(s.wrecks.size() - 1);
    }

    int shoal(int x, int y, int wide, int from, int to) {
        if (!in(x, 0, 31) || !in(y, 0, 31) || !in(wide, 0, 9) || !in(from, 0, 23) || !in(to, 0, 23) || to < from) {
            return refuse(-1);
        }
        if (s.shoals.size() == 6) return refuse(-5);
        s.shoals.add(new int[] {x, y, wide, from, to});
        return good(s.shoals.size() - 1);
    }

    private boolean fitsDirection(int[] h, int x, int y) {
        return (x != 0 || y != 0) && far(bearingOf(x, y), h[2]) <= s.terms[0];
    }

    private boolean fitsDistance(int[] e, int x, int y) {
        int low = Math.max(0, e[2] - s.terms[1]);
        int high = e[2] + s.terms[1];
        int squares = x * x + y * y;
        return squares >= low * low && squares <= high * high;
    }

    private List<int[]> answering(int bell) {
        List<int[]> places = new ArrayList<>(s.wrecks);
        for (int[] sh : s.shoals) {
            if (in(bell, sh[3], sh[4])) {
                for (int x = sh[0] - sh[2]; x <= sh[0] + sh[2]; x++) {
                    for (int y = sh[1] - sh[2]; y <= sh[1] + sh[2]; y++) places.add(new int[] {x, y});
                }
            }
        }
        return places;
    }

    private boolean isKnown(boolean isEcho, int[] m) {
        int x = at(m[0], m[1], 0);
        int y = at(m[0], m[1], 1);
        for (int[] p : answering(m[1])) {
            if (isEcho ? fitsDistance(m, p[0] - x, p[1] - y) : fitsDirection(m, p[0] - x, p[1] - y)) return true;
        }
        return false;
    }

    int known(int what, int k) {
        if (!in(what, 0, 1)) return -1;
        List<int[]> list = what == 0 ? s.heard : s.echoes;
        if (!in(k, 0, list.size() - 1)) return -1;
        return isKnown(what == 1, list.get(k)) ? 1 : 0;
    }

    int watch(int watch, int what) {
        if (!in(watch, 0, 5) || !in(what, 0, 3)) return -1;
        int found = 0;
        for (int[] m : what < 2 ? s.heard : s.echoes) {
            if (in(m[1], 4 * watch, 4 * watch + 3)) {
                if (what == 0 || what == 2 || !isKnown(what == 3, m)) found++;
            }
        }
        return found;
    }

    // ---- tape ----

    int feed(int a, int b, int c, int d, int e) {
        if (tape.length() > 380) return -1;
        for (int n : new int[] {a, b, c, d, e}) {
            tape.append((char) (n >> 24 & 255)).append((char) (n >> 16 & 255));
            tape.append((char) (n >> 8 & 255)).append((char) (n & 255));
        }
        return tape.length();
    }

    int end(int n) {
        if (!in(n, 0, tape.length())) return -1;
        tape.setLength(n);
        return n;
    }

    int row() {
        if (tape.length() == 0) return refuse(-6);
        int came = 0;
        torn = 0;
        for (int i = 0; i < tape.length(); i += 3) {
            boolean good = i + 2 < tape.length() && tape.charAt(i) < 2 && tape.charAt(i + 1) < 24
                && tape.charAt(i + 2) < 80 && s.heard.size() < 24;
            if (good) {
                s.heard.add(new int[] {tape.charAt(i), tape.charAt(i + 1), tape.charAt(i + 2)});
                came++;
            } else {
                torn++;
            }
        }
        tape.setLength(0);
        return good(came);
    }

    int torn() {
        return torn;
    }

    int law() {
        PlainLaw read = new PlainLaw(tape.toString());
        tape.setLength(0);
        fault = read.fault;
        if (fault >= 0) return refuse(-6);
        s.law = read.clauses;
        return good(s.law.size());
    }

    int fault() {
        return fault;
    }

    // ---- runs ----

    private int missesWith(int[] r, int shift, int bound) {
        int missed = 0;
        for (int pass = 0; pass < 2; pass++) {
            for (int[] m : pass == 0 ? newHeard : newEchoes) {
                int t = m[1] + (m[0] == 1 ? shift : 0);
                boolean fit = false;
                if (in(t, 0, 23)) {
                    int x = r[0] + r[2] * t - track[m[0]][t][0];
                    int y = r[1] + r[3] * t - track[m[0]][t][1];
                    fit = pass == 0 ? fitsDirection(m, x, y) : fitsDistance(m, x, y);
                    fit = fit && sound(s.terms[3], s.boats[m[0]][2], range(x, y));
                }
                if (!fit && ++missed >= bound) return missed;
            }
        }
        return missed;
    }

    private int missesOf(int[] r, int bound) {
        int best = Integer.MAX_VALUE;
        for (int shift = -s.terms[2]; shift <= s.terms[2]; shift++) {
            best = Math.min(best, missesWith(r, shift, bound));
        }
        return best;
    }

    private final List<int[]> newHeard = new ArrayList<>();
    private final List<int[]> newEchoes = new ArrayList<>();
    private final int[][][] track = new int[2][24][2];

    private void findNew() {
        newHeard.clear();
        newEchoes.clear();
        for (int[] m : s.heard) if (!isKnown(false, m)) newHeard.add(m);
        for (int[] m : s.echoes) if (!isKnown(true, m)) newEchoes.add(m);
        for (int b = 0; b < 2; b++) {
            for (int t = 0; t < 24; t++) track[b][t] = new int[] {at(b, t, 0), at(b, t, 1)};
        }
    }

    private static List<int[]> everyRun() {
        List<int[]> all = new ArrayList<>();
        for (int x = 0; x < 32; x++) {
            for (int y = 0; y < 32; y++) {
                for (int u = -3; u <= 3; u++) {
                    for (int v = -3; v <= 3; v++) all.add(new int[] {x, y, u, v});
                }
            }
        }
        return all;
    }

    private static final List<int[]> EVERY = everyRun();

    private List<int[]> fitting() {
        if (fitting == null) {
            findNew();
            fitting = new ArrayList<>();
            for (int[] r : EVERY) if (missesOf(r, 1) == 0) fitting.add(r);
        }
        return fitting;
    }

    int runs() {
        return fitting().size();
    }

    int run(int i, int what) {
        if (!in(what, 0, 3) || !in(i, 0, runs() - 1)) return -1000;
        return fitting().get(i)[what];
    }

    int span(int bell, int what) {
        if (!in(bell, 0, 23) || !in(what, 0, 3) || runs() == 0) return -1000;
        int axis = what / 2;
        int best = 0;
        boolean any = false;
        for (int[] r : fitting()) {
            int p = r[axis] + bell * r[2 + axis];
            if (!any || (what % 2 == 0 ? p < best : p > best)) best = p;
            any = true;
        }
        return best;
    }

    private static boolean isRun(int x, int y, int u, int v) {
        return in(x, 0, 31) && in(y, 0, 31) && in(u, -3, 3) && in(v, -3, 3);
    }

    int misses(int x, int y, int u, int v) {
        if (!isRun(x, y, u, v)) return -1;
        findNew();
        return missesOf(new int[] {x, y, u, v}, 1000);
    }

    int alone(int bell, int what) {
        if (!in(bell, 0, 23) || !in(what, 0, 1)) return -1000;
        Set<Integer> places = new HashSet<>();
        int[] place = new int[2];
        for (int[] r : fitting()) {
            place = new int[] {r[0] + bell * r[2], r[1] + bell * r[3]};
            places.add(place[0] * 1000 + place[1]);
        }
        return places.size() == 1 ? place[what] : -1000;
    }

    int within(int bell, int x, int y, int wide) {
        if (!in(bell, 0, 23) || !in(x, -99, 199) || !in(y, -99, 199) || !in(wide, 0, 99)) return -1;
        int found = 0;
        for (int[] r : fitting()) {
            if (range(r[0] + bell * r[2] - x, r[1] + bell * r[3] - y) <= wide) found++;
        }
        return found;
    }

    private int[] allMisses() {
        if (allMisses == null) {
            findNew();
            allMisses = new int[EVERY.size()];
            for (int i = 0; i < allMisses.length; i++) allMisses[i] = missesOf(EVERY.get(i), 1000);
        }
        return allMisses;
    }

    int least(int what) {
        if (!in(what, 0, 2)) return -1;
        int best = 1000;
        int many = 0;
        int first = -1;
        for (int i = 0; i < allMisses().length; i++) {
            if (allMisses[i] < best) {
                best = allMisses[i];
                many = 0;
                int[] r = EVERY.get(i);
                first = 1568 * r[0] + 49 * r[1] + 7 * (r[2] + 3) + r[3] + 3;
            }
            if (allMisses[i] == best) many++;
        }
        return new int[] {best, many, first}[what];
    }

    int guess(int x, int y, int u, int v) {
        if (!isRun(x, y, u, v)) return refuse(-1);
        if (s.guesses.size() == 8) return refuse(-5);
        s.guesses.add(new int[] {x, y, u, v});
        return good(s.guesses.size() - 1);
    }

    int better(int g) {
        if (!in(g, 0, s.guesses.size() - 1)) return -1;
        int[] r = s.guesses.get(g);
        int own = misses(r[0], r[1], r[2], r[3]);
        int found = 0;
        for (int m : allMisses()) if (m < own) found++;
        return found;
    }

    // ---- offers ----

    int offer(int u, int v) {
        if (!in(u, -3, 3) || !in(v, -3, 3)) return refuse(-1);
        if (s.offers.size() == 8) return refuse(-5);
        s.offers.add(new int[] {u, v});
        return good(s.offers.size() - 1);
    }

    int parts(int bell, int ahead, int o) {
        if (!in(bell, 0, 23) || !in(ahead, 1, 9) || bell + ahead > 23 || !in(o, 0, s.offers.size() - 1)) return -1;
        int x = at(0, bell, 0) + ahead * s.offers.get(o)[0];
        int y = at(0, bell, 1) + ahead * s.offers.get(o)[1];
        Map<Integer, Integer> groups = new HashMap<>();
        int most = 0;
        for (int[] r : fitting()) {
            int dx = r[0] + r[2] * (bell + ahead) - x;
            int dy = r[1] + r[3] * (bell + ahead) - y;
            most = Math.max(most, groups.merge(bearingOf(dx, dy), 1, Integer::sum));
        }
        return most;
    }

    int turn(int bell, int ahead) {
        return silentBelow(bell, ahead, Integer.MAX_VALUE);
    }

    int heardBy(int bell, int ahead, int o) {
        if (!in(bell, 0, 23) || !in(ahead, 1, 9) || bell + ahead > 23 || !in(o, 0, s.offers.size() - 1)) return -1;
        int[] of = s.offers.get(o);
        int x = at(0, bell, 0) + ahead * of[0];
        int y = at(0, bell, 1) + ahead * of[1];
        return hearers(0, bell + ahead, range(of[0], of[1]), x, y);
    }

    int silent(int bell, int ahead, int most) {
        return in(most, 0, 60000) ? silentBelow(bell, ahead, most) : -1;
    }

    private int silentBelow(int bell, int ahead, int most) {
        int best = -1;
        for (int o = s.offers.size() - 1; o >= 0; o--) {
            if (parts(bell, ahead, o) < 0) return -1;
            if (heardBy(bell, ahead, o) <= most) {
                if (best < 0 || parts(bell, ahead, o) <= parts(bell, ahead, best)) best = o;
            }
        }
        return best;
    }

    // ---- traces ----

    private boolean canJoin(int i, int k) {
        int[] a = s.heard.get(i);
        int[] b = s.heard.get(k);
        int later = b[1] - a[1];
        return a[0] == b[0] && later > 0 && later <= s.terms[4] && far(a[2], b[2]) <= s.terms[5] * later;
    }

    /** The most joins from the i-th on with some taken, and in how many ways; key: must or must not be joined. */
    private long[] most(int boat, int i, int taken, Map<Long, long[]> memo, int[] forced) {
        if (i == s.heard.size()) return new long[] {0, 1};
        long key = (long) i << 32 | taken;
        long[] old = memo.get(key);
        if (old != null) return old;
        long[] best = most(boat, i + 1, taken, memo, forced).clone();
        if (forced != null && forced[0] == i) best = new long[] {-1000, 0};
        for (int k = 0; s.heard.get(i)[0] == boat && k < s.heard.size(); k++) {
            boolean bad = forced != null && forced[0] == i && forced[1] != k;
            if (canJoin(i, k) && (taken >> k & 1) == 0 && !bad) {
                long[] r = most(boat, i + 1, taken | 1 << k, memo, forced);
                if (r[0] + 1 > best[0]) best = new long[] {r[0] + 1, 0};
                if (r[0] + 1 == best[0]) best[1] += r[1];
            }
        }
        memo.put(key, best);
        return best;
    }

    int traces(int boat) {
        if (!in(boat, 0, 1)) return -1;
        int n = 0;
        for (int[] h : s.heard) if (h[0] == boat) n++;
        return n - (int) most(boat, 0, 0, new HashMap<>(), null)[0];
    }

    int next(int heard) {
        if (!in(heard, 0, s.heard.size() - 1)) return -1;
        int boat = s.heard.get(heard)[0];
        Map<Long, long[]> memo = new HashMap<>();
        int taken = 0;
        int found = -1;
        for (int i = 0; i <= heard; i++) {
            found = -1;
            long due = most(boat, i, taken, memo, null)[0];
            for (int k = s.heard.size() - 1; s.heard.get(i)[0] == boat && k >= 0; k--) {
                if (canJoin(i, k) && (taken >> k & 1) == 0
                    && most(boat, i + 1, taken | 1 << k, memo, null)[0] + 1 == due) {
                    found = k;
                }
            }
            if (found >= 0) taken |= 1 << found;
        }
        return found;
    }

    int sure(int h, int n) {
        int last = s.heard.size() - 1;
        if (!in(h, 0, last) || !in(n, 0, last) || h == n) return -1;
        int boat = s.heard.get(h)[0];
        long[] all = most(boat, 0, 0, new HashMap<>(), null);
        long[] with = most(boat, 0, 0, new HashMap<>(), new int[] {h, n});
        if (with[0] < all[0]) return 0;
        return with[1] == all[1] ? 2 : 1;
    }

    // ---- crossings ----

    private List<int[]> at(int boat, int bell) {
        findNew();
        List<int[]> found = new ArrayList<>();
        for (int[] h : newHeard) if (h[0] == boat && h[1] == bell) found.add(h);
        return found;
    }

    private boolean fitsPlace(int[] h, int px, int py) {
        int x = px - at(h[0], h[1], 0);
        int y = py - at(h[0], h[1], 1);
        return fitsDirection(h, x, y) && sound(s.terms[3], s.boats[h[0]][2], range(x, y));
    }

    private int crossings(int[] a, int[] b) {
        int found = 0;
        for (int x = 0; x < 32; x++) {
            for (int y = 0; y < 32; y++) if (fitsPlace(a, x, y) && fitsPlace(b, x, y)) found++;
        }
        return found;
    }

    int cross(int bell, int i, int k) {
        if (!in(bell, 0, 23)) return -1;
        List<int[]> a = at(0, bell);
        List<int[]> b = at(1, bell);
        if (!in(i, 0, a.size() - 1) || !in(k, 0, b.size() - 1)) return -1;
        return crossings(a.get(i), b.get(k));
    }

    private List<int[]> pairingsAt(int bell) {
        List<int[]> a = at(0, bell);
        List<int[]> b = at(1, bell);
        List<int[]> found = new ArrayList<>();
        if (a.size() != b.size() || a.isEmpty() || a.size() > 6) return found;
        found.add(new int[0]);
        for (int i = 0; i < a.size(); i++) {
            List<int[]> longer = new ArrayList<>();
            for (int k = 0; k < b.size(); k++) {
                if (crossings(a.get(i), b.get(k)) == 0) continue;
                for (int[] p : found) {
                    int taken = k;
                    if (Arrays.stream(p).noneMatch(q -> q == taken)) {
                        int[] more = Arrays.copyOf(p, p.length + 1);
                        more[p.length] = k;
                        longer.add(more);
                    }
                }
            }
            found = longer;
        }
        return found;
    }

    int pairings(int bell) {
        return in(bell, 0, 23) ? pairingsAt(bell).size() : -1;
    }

    int ghost(int bell, int i, int k) {
        if (cross(bell, i, k) < 0) return -1;
        for (int[] p : pairingsAt(bell)) if (p[i] == k) return 0;
        return 1;
    }

    // ---- screws ----

    int beat(int often) {
        if (!in(often, 1, 3000)) return refuse(-1);
        if (s.beats.size() == 6) return refuse(-5);
        s.beats.add(often);
        return good(s.beats.size());
    }

    private List<int[]> screwsThatFit() {
        List<int[]> found = new ArrayList<>();
        for (int turns = 1; turns <= 300 && !s.beats.isEmpty(); turns++) {
            for (int blades = 3; blades <= 7; blades++) {
                boolean fits = Math.abs(s.beats.get(0) - turns * blades) <= 1;
                for (int beat : s.beats.subList(1, s.beats.size())) {
                    boolean some = false;
                    for (int n = 1; n <= 21; n++) some |= Math.abs(beat - n * turns) <= 1;
                    fits &= some;
                }
                if (fits) found.add(new int[] {turns, blades});
            }
        }
        return found;
    }

    int screws() {
        return screwsThatFit().size();
    }

    int screw(int i, int what) {
        List<int[]> all = screwsThatFit();
        return in(i, 0, all.size() - 1) && in(what, 0, 1) ? all.get(i)[what] : -1;
    }

    // ---- law ----

    private long told(String head, int b, int bell, int range, int speed) {
        long[] env = {speed, s.boats[b][2], range, bell, b};
        long value = 0;
        for (PlainLaw.Clause c : s.law) {
            if (c.head.equals(head)) {
                Long v = c.ask(env);
                if (v != null) value = v;
            }
        }
        return value;
    }

    int tells(int b, int bell, int range, int what) {
        if (!in(b, 0, 1) || !in(bell, 0, 23) || !in(range, 0, 200) || !in(what, 0, 2)) return -10000000;
        return (int) told(List.of("noise", "loss", "ear").get(what), b, bell, range, speed(b, bell));
    }

    private int hearers(int b, int bell, int speed, int x, int y) {
        Map<Integer, Boolean> loud = new HashMap<>();
        int found = 0;
        for (int[] r : fitting()) {
            int range = range(r[0] + bell * r[2] - x, r[1] + bell * r[3] - y);
            boolean hears = loud.computeIfAbsent(range, k ->
                told("noise", b, bell, k, speed) - told("loss", b, bell, k, speed) >= told("ear", b, bell, k, speed)
                && sound(s.boats[b][2], s.terms[3], k));
            if (hears) found++;
        }
        return found;
    }

    int hears(int b, int bell) {
        if (!in(b, 0, 1) || !in(bell, 0, 23)) return -1;
        return hearers(b, bell, speed(b, bell), at(b, bell, 0), at(b, bell, 1));
    }

    // ---- cells ----

    int cell(int weight, int find) {
        if (!in(weight, 0, 100) || !in(find, 0, 100)) return refuse(-1);
        if (s.cells.size() == 6) return refuse(-5);
        s.cells.add(new int[] {weight, find});
        return good(s.cells.size() - 1);
    }

    private BigInteger bestChance;
    private int[] bestLooks;

    /** Tries all ways, most looks at the first cells first. */
    private void tryLooks(int[] ways, int cell, int left) {
        if (cell == s.cells.size()) {
            if (left > 0) return;
            BigInteger sum = BigInteger.ZERO;
            for (int i = 0; i < ways.length; i++) {
                BigInteger missed = BigInteger.valueOf(100 - s.cells.get(i)[1]).pow(ways[i])
                    .multiply(BigInteger.valueOf(100).pow(10 - ways[i]));
                sum = sum.add(BigInteger.valueOf(100).pow(10).subtract(missed)
                    .multiply(BigInteger.valueOf(s.cells.get(i)[0])));
            }
            if (bestChance == null || sum.compareTo(bestChance) > 0) {
                bestChance = sum;
                bestLooks = ways.clone();
            }
            return;
        }
        for (int n = left; n >= 0; n--) {
            ways[cell] = n;
            tryLooks(ways, cell + 1, left - n);
        }
        ways[cell] = 0;
    }

    long search(int looks, int part) {
        if (!in(looks, 0, 6) || !in(part, 0, 1)) return -1;
        BigInteger all = BigInteger.ZERO;
        for (int[] c : s.cells) all = all.add(BigInteger.valueOf(c[0]));
        if (all.signum() == 0) return part;
        bestChance = null;
        tryLooks(new int[s.cells.size()], 0, looks);
        BigInteger lower = all.multiply(BigInteger.valueOf(100).pow(10));
        BigInteger gcd = lower.gcd(bestChance);
        return (part == 0 ? bestChance : lower).divide(gcd).longValueExact();
    }

    int looks(int looks, int cell) {
        if (!in(looks, 0, 6) || !in(cell, 0, s.cells.size() - 1)) return -1;
        bestChance = null;
        tryLooks(new int[s.cells.size()], 0, looks);
        return bestLooks[cell];
    }

    // ---- images, counts ----

    int image(int k) {
        if (!in(k, 0, 1)) return refuse(-1);
        images[k] = s.copy();
        return good(0);
    }

    int back(int k) {
        if (!in(k, 0, 1)) return refuse(-1);
        if (images[k] == null) return refuse(-2);
        s = images[k].copy();
        return good(0);
    }

    int count(int what) {
        findNew();
        int[] all = {s.heard.size(), s.echoes.size(), s.wrecks.size(), s.offers.size(), s.beats.size(),
            s.law.size(), s.cells.size(), newHeard.size() + newEchoes.size(), tape.length(),
            refused.getOrDefault(-1, 0), refused.getOrDefault(-2, 0), refused.getOrDefault(-3, 0),
            refused.getOrDefault(-5, 0), refused.getOrDefault(-6, 0), s.shoals.size(), s.guesses.size(), s.day};
        return in(what, 0, all.length - 1) ? all[what] : -1;
    }

    int status() {
        return status;
    }
}
