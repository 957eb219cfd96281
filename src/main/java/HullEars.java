import java.util.Arrays;

/** Two boats that listen without speaking; what they hear, and all straight runs that fit it. */
public final class HullEars {
    public static final int NONE = -1;

    private static final int NOTHING = -1000;
    private static final int NOTHING_TOLD = -10000000;

    private static final int WRONG_NUMBER = -1;
    private static final int NO_SUCH = -2;
    private static final int NOT_LATER = -3;
    private static final int NO_ROOM = -5;
    private static final int NOT_READ = -6;

    private static final int BELLS = 24;
    private static final int BELLS_OF_WATCH = 4;
    private static final int WATCHES = 6;
    private static final int SEA = 32;
    private static final int DEPTHS = 10;
    private static final int DAYS = 3;
    private static final int DIRECTIONS = 80;
    private static final int ARM = 10;
    private static final int PACE = 3;
    private static final int PACES = 7;
    private static final int SHEAVES = SEA * PACES;
    private static final int LANES = SHEAVES * PACES;
    private static final int FARTHEST = 200;
    private static final int MOST_HEARD = 24;
    private static final int MOST_ECHOES = 12;
    private static final int MOST_PAIRS = 6;
    private static final int MOST_LOOKS = 6;
    private static final int MOST_CELLS = 6;
    private static final int MOST_AHEAD = 9;
    private static final int TAPE = 400;
    private static final int IMAGES = 2;

    private static final int ERROR = 0;
    private static final int OFF = 1;
    private static final int APART = 2;
    private static final int TARGET_DEPTH = 3;
    private static final int GAP = 4;
    private static final int TURN = 5;
    private static final int[] TERM_LEAST = {0, 0, 0, 0, 1, 0};
    private static final int[] TERM_MOST = {20, 9, 3, 9, 23, 40};
    private static final int[] TERM_FIRST = {1, 1, 0, 5, 4, 6};

    private static final int HEARD = 0;
    private static final int ECHO = 1;

    private static final int NOISE = 0;
    private static final int LOSS = 1;
    private static final int EAR = 2;

    private final Book now = new Book();
    private final Book[] images = new Book[IMAGES];
    private final boolean[] kept = new boolean[IMAGES];
    private final Chart chart = new Chart(now);
    private final Tallies tallies = new Tallies(now, chart);
    private final Joins joins = new Joins(now);
    private final LawReader reader = new LawReader();
    private final int[] tape = new int[TAPE];
    private final int[] refusals = new int[5];
    private final int[] looksAt = new int[MOST_CELLS];
    private int tapeSize = 0;
    private int faultAt = NONE;
    private int tornCount = 0;
    private int refusedBy = 0;

    public HullEars() {
        for (int k = 0; k < IMAGES; k++) {
            images[k] = new Book();
        }
    }

    // ---- boats, terms, water ----

    public int boat(int boat, int x, int y, int depth) {
        if (!ofSea(x, y) || !isIn(depth, 0, DEPTHS - 1)) {
            return refuse(WRONG_NUMBER);
        }
        if (!isBoat(boat)) {
            return refuse(NO_SUCH);
        }
        int had = now.boats[boat].legs.size;
        now.boats[boat].start(x, y, depth);
        return changed(had);
    }

    public int leg(int boat, int bell, int u, int v) {
        if (!isBell(bell) || !isPace(u, v)) {
            return refuse(WRONG_NUMBER);
        }
        if (!isBoat(boat)) {
            return refuse(NO_SUCH);
        }
        Rows legs = now.boats[boat].legs;
        if (legs.size > 0 && legs.at(legs.size - 1, 0) >= bell) {
            return refuse(NOT_LATER);
        }
        if (legs.isFull()) {
            return refuse(NO_ROOM);
        }
        legs.add(bell, u, v, 0, 0);
        now.boats[boat].follow();
        return changed(legs.size);
    }

    public int where(int boat, int bell, int what) {
        if (!isBoat(boat) || !isBell(bell)) {
            return NOTHING;
        }
        Boat hull = now.boats[boat];
        switch (what) {
            case 0:
                return hull.east[bell];
            case 1:
                return hull.north[bell];
            case 2:
                return hull.speed[bell];
            default:
                return NOTHING;
        }
    }

    public int terms(int what, int value) {
        if (!isIn(what, 0, TERM_FIRST.length - 1) || !isIn(value, TERM_LEAST[what], TERM_MOST[what])) {
            return refuse(WRONG_NUMBER);
        }
        int was = now.terms[what];
        now.terms[what] = value;
        return changed(was);
    }

    public int day(int day) {
        if (!isIn(day, 0, DAYS - 1)) {
            return refuse(WRONG_NUMBER);
        }
        int was = now.water.day;
        now.water.day = day;
        return changed(was);
    }

    public int layer(int depth, int slow) {
        if (!isIn(depth, 0, DEPTHS - 1) || !isIn(slow, 0, 200)) {
            return refuse(WRONG_NUMBER);
        }
        return changed(now.water.changeSlow(depth, slow));
    }

    public int reaches(int from, int to, int range) {
        if (!isIn(from, 0, DEPTHS - 1) || !isIn(to, 0, DEPTHS - 1) || !isIn(range, 0, FARTHEST)) {
            return NONE;
        }
        now.water.sendRays(from, range, chart.depths);
        return Water.isNear(chart.depths[range], to) ? 1 : 0;
    }

    public int bearing(int x, int y) {
        if (!isIn(x, -1000, 1000) || !isIn(y, -1000, 1000)) {
            return NONE;
        }
        return direction(x, y);
    }

    // ---- what is heard ----

    public int heard(int boat, int bell, int direction) {
        if (!isBell(bell) || !isIn(direction, 0, DIRECTIONS - 1)) {
            return refuse(WRONG_NUMBER);
        }
        if (!isBoat(boat)) {
            return refuse(NO_SUCH);
        }
        return addChanging(now.heard, boat, bell, direction, 0, 0);
    }

    public int echo(int boat, int bell, int distance) {
        if (!isBell(bell) || !isIn(distance, 0, 99)) {
            return refuse(WRONG_NUMBER);
        }
        if (!isBoat(boat)) {
            return refuse(NO_SUCH);
        }
        return addChanging(now.echoes, boat, bell, distance, 0, 0);
    }

    public int wreck(int x, int y) {
        if (!ofSea(x, y)) {
            return refuse(WRONG_NUMBER);
        }
        // As a shoal of one place that never goes.
        return addChanging(now.wrecks, x, y, 0, 0, BELLS - 1);
    }

    public int shoal(int x, int y, int wide, int from, int to) {
        if (!ofSea(x, y) || !isIn(wide, 0, 9) || !isBell(from) || !isBell(to) || to < from) {
            return refuse(WRONG_NUMBER);
        }
        return addChanging(now.shoals, x, y, wide, from, to);
    }

    public int known(int what, int k) {
        if (what == HEARD && isIn(k, 0, now.heard.size - 1)) {
            chart.sortOut();
            return chart.knownHeard >>> k & 1;
        }
        if (what == ECHO && isIn(k, 0, now.echoes.size - 1)) {
            chart.sortOut();
            return chart.knownEchoes >>> k & 1;
        }
        return NONE;
    }

    public int watch(int watch, int what) {
        if (!isIn(watch, 0, WATCHES - 1) || !isIn(what, 0, 3)) {
            return NONE;
        }
        chart.sortOut();
        boolean newOnes = what % 2 == 1;
        if (what < 2) {
            return inWatch(now.heard, watch, newOnes ? chart.knownHeard : 0);
        }
        return inWatch(now.echoes, watch, newOnes ? chart.knownEchoes : 0);
    }

    // ---- the tape ----

    public int feed(int a, int b, int c, int d, int e) {
        if (tapeSize + 20 > TAPE) {
            return NONE;
        }
        feedNumber(a);
        feedNumber(b);
        feedNumber(c);
        feedNumber(d);
        feedNumber(e);
        return tapeSize;
    }

    public int end(int n) {
        if (!isIn(n, 0, tapeSize)) {
            return NONE;
        }
        tapeSize = n;
        return n;
    }

    public int row() {
        if (tapeSize == 0) {
            return refuse(NOT_READ);
        }
        int came = 0;
        tornCount = tapeSize % 3 == 0 ? 0 : 1;
        for (int i = 0; i + 2 < tapeSize; i += 3) {
            if (cameFromTape(tape[i], tape[i + 1], tape[i + 2])) {
                came++;
            } else {
                tornCount++;
            }
        }
        tapeSize = 0;
        return changed(came);
    }

    public int torn() {
        return tornCount;
    }

    public int law() {
        faultAt = reader.read(tape, tapeSize);
        tapeSize = 0;
        if (faultAt != NONE) {
            return refuse(NOT_READ);
        }
        now.law.copy(reader.draft);
        return accept(now.law.clauses.size);
    }

    public int fault() {
        return faultAt;
    }

    // ---- runs ----

    public int runs() {
        chart.plot();
        return chart.total;
    }

    public int run(int i, int what) {
        if (i < 0 || !isIn(what, 0, 3)) {
            return NOTHING;
        }
        chart.plot();
        return i < chart.total ? chart.pick(i, what) : NOTHING;
    }

    public int span(int bell, int what) {
        if (!isBell(bell) || !isIn(what, 0, 3)) {
            return NOTHING;
        }
        chart.plot();
        return chart.total > 0 ? chart.edge(bell, what) : NOTHING;
    }

    public int misses(int x, int y, int u, int v) {
        return isRun(x, y, u, v) ? tallies.missesOf(x, y, u, v) : NONE;
    }

    public int alone(int bell, int what) {
        if (!isBell(bell) || !isIn(what, 0, 1)) {
            return NOTHING;
        }
        chart.plot();
        if (chart.total == 0) {
            return NOTHING;
        }
        int east = chart.edge(bell, 0);
        int north = chart.edge(bell, 2);
        if (east != chart.edge(bell, 1) || north != chart.edge(bell, 3)) {
            return NOTHING;
        }
        return what == 0 ? east : north;
    }

    public int within(int bell, int x, int y, int wide) {
        if (!isBell(bell) || !isIn(x, -99, 199) || !isIn(y, -99, 199) || !isIn(wide, 0, 99)) {
            return NONE;
        }
        chart.plot();
        return chart.inSquare(bell, x, y, wide);
    }

    public int least(int what) {
        if (!isIn(what, 0, 2)) {
            return NONE;
        }
        tallies.reckon();
        switch (what) {
            case 0:
                return tallies.fewest;
            case 1:
                return tallies.below(tallies.fewest + 1);
            default:
                return tallies.first;
        }
    }

    public int guess(int x, int y, int u, int v) {
        if (!isRun(x, y, u, v)) {
            return refuse(WRONG_NUMBER);
        }
        return addTo(now.guesses, x, y, u, v, 0);
    }

    public int better(int guess) {
        Rows all = now.guesses;
        if (!isIn(guess, 0, all.size - 1)) {
            return NONE;
        }
        tallies.reckon();
        int own = tallies.missesOf(all.at(guess, 0), all.at(guess, 1), all.at(guess, 2), all.at(guess, 3));
        return tallies.below(own);
    }

    // ---- offers ----

    public int offer(int u, int v) {
        if (!isPace(u, v)) {
            return refuse(WRONG_NUMBER);
        }
        return addTo(now.offers, u, v, 0, 0, 0);
    }

    public int parts(int bell, int ahead, int offer) {
        if (!isAhead(bell, ahead) || !isIn(offer, 0, now.offers.size - 1)) {
            return NONE;
        }
        chart.plot();
        return chart.largestGroup(bell + ahead, offerEast(bell, ahead, offer), offerNorth(bell, ahead, offer));
    }

    public int turn(int bell, int ahead) {
        if (!isAhead(bell, ahead)) {
            return NONE;
        }
        chart.plot();
        return bestOffer(bell, ahead, chart.total);
    }

    public int heardBy(int bell, int ahead, int offer) {
        if (!isAhead(bell, ahead) || !isIn(offer, 0, now.offers.size - 1)) {
            return NONE;
        }
        chart.plot();
        int x = offerEast(bell, ahead, offer);
        int y = offerNorth(bell, ahead, offer);
        return chart.hearers(0, bell + ahead, offerSpeed(offer), x, y);
    }

    public int silent(int bell, int ahead, int most) {
        if (!isAhead(bell, ahead) || !isIn(most, 0, 60000)) {
            return NONE;
        }
        chart.plot();
        return bestOffer(bell, ahead, most);
    }

    // ---- traces ----

    public int traces(int boat) {
        if (!isBoat(boat)) {
            return NONE;
        }
        joins.draw(boat);
        return joins.members - joins.most;
    }

    public int next(int heard) {
        if (!isIn(heard, 0, now.heard.size - 1)) {
            return NONE;
        }
        joins.draw(now.heard.at(heard, 0));
        return joins.firstNext(heard);
    }

    public int sure(int heard, int next) {
        int last = now.heard.size - 1;
        if (!isIn(heard, 0, last) || !isIn(next, 0, last) || heard == next) {
            return NONE;
        }
        joins.draw(now.heard.at(heard, 0));
        return joins.certainty(heard, next);
    }

    // ---- crossings ----

    public int cross(int bell, int i, int k) {
        if (!isBell(bell)) {
            return NONE;
        }
        chart.sortOut();
        int one = chart.freshHeard(0, bell, i);
        int other = chart.freshHeard(1, bell, k);
        return one == NONE || other == NONE ? NONE : chart.crossings(bell, one, other);
    }

    public int pairings(int bell) {
        if (!isBell(bell)) {
            return NONE;
        }
        chart.sortOut();
        int pairs = chart.crossAll(bell);
        return pairs == 0 ? 0 : chart.ways(0, 0, pairs);
    }

    public int ghost(int bell, int i, int k) {
        if (!isBell(bell)) {
            return NONE;
        }
        chart.sortOut();
        if (chart.freshHeard(0, bell, i) == NONE || chart.freshHeard(1, bell, k) == NONE) {
            return NONE;
        }
        int pairs = chart.crossAll(bell);
        if (pairs == 0) {
            return 1;
        }
        chart.keepPair(i, k);
        return chart.ways(0, 0, pairs) == 0 ? 1 : 0;
    }

    // ---- screws ----

    public int beat(int often) {
        if (!isIn(often, 1, 3000)) {
            return refuse(WRONG_NUMBER);
        }
        int number = addTo(now.beats, often, 0, 0, 0, 0);
        return number < 0 ? number : now.beats.size;
    }

    public int screws() {
        int fitting = 0;
        for (int screw = 0; screw < 1500; screw++) {
            if (screwFits(1 + screw / 5, 3 + screw % 5)) {
                fitting++;
            }
        }
        return fitting;
    }

    public int screw(int i, int what) {
        if (i < 0 || !isIn(what, 0, 1)) {
            return NONE;
        }
        int left = i;
        for (int screw = 0; screw < 1500; screw++) {
            if (screwFits(1 + screw / 5, 3 + screw % 5)) {
                if (left == 0) {
                    return what == 0 ? 1 + screw / 5 : 3 + screw % 5;
                }
                left--;
            }
        }
        return NONE;
    }

    // ---- what the other one hears ----

    public int tells(int boat, int bell, int range, int what) {
        if (!isBoat(boat) || !isBell(bell) || !isIn(range, 0, FARTHEST) || !isIn(what, NOISE, EAR)) {
            return NOTHING_TOLD;
        }
        now.law.pose(now.boats[boat].speed[bell], now.boats[boat].depth, bell, boat);
        return now.law.answer(what, range);
    }

    public int hears(int boat, int bell) {
        if (!isBoat(boat) || !isBell(bell)) {
            return NONE;
        }
        chart.plot();
        Boat hull = now.boats[boat];
        return chart.hearers(boat, bell, hull.speed[bell], hull.east[bell], hull.north[bell]);
    }

    // ---- looks at cells ----

    public int cell(int weight, int find) {
        if (!isIn(weight, 0, 100) || !isIn(find, 0, 100)) {
            return refuse(WRONG_NUMBER);
        }
        return addTo(now.cells, weight, find, 0, 0, 0);
    }

    public long search(int looks, int part) {
        if (!isIn(looks, 0, MOST_LOOKS) || !isIn(part, 0, 1)) {
            return NONE;
        }
        long upper = spreadLooks(looks);
        long lower = 0;
        for (int i = 0; i < now.cells.size; i++) {
            lower += now.cells.at(i, 0) * power(100, MOST_LOOKS);
        }
        if (lower == 0) {
            return part;
        }
        long shared = commonDivisor(upper, lower);
        if (shared == 0) {
            return part;
        }
        return part == 0 ? upper / shared : lower / shared;
    }

    public int looks(int looks, int cell) {
        if (!isIn(looks, 0, MOST_LOOKS) || !isIn(cell, 0, now.cells.size - 1)) {
            return NONE;
        }
        spreadLooks(looks);
        return looksAt[cell];
    }

    // ---- images, counts ----

    public int image(int k) {
        if (!isIn(k, 0, IMAGES - 1)) {
            return refuse(WRONG_NUMBER);
        }
        images[k].copy(now);
        kept[k] = true;
        return accept(0);
    }

    public int back(int k) {
        if (!isIn(k, 0, IMAGES - 1)) {
            return refuse(WRONG_NUMBER);
        }
        if (!kept[k]) {
            return refuse(NO_SUCH);
        }
        now.copy(images[k]);
        return changed(0);
    }

    public int count(int what) {
        switch (what) {
            case 0:
                return now.heard.size;
            case 1:
                return now.echoes.size;
            case 2:
                return now.wrecks.size;
            case 3:
                return now.offers.size;
            case 4:
                return now.beats.size;
            case 5:
                return now.law.clauses.size;
            case 6:
                return now.cells.size;
            case 7:
                chart.sortOut();
                return chart.fresh[0].size + chart.fresh[1].size;
            case 8:
                return tapeSize;
            case 14:
                return now.shoals.size;
            case 15:
                return now.guesses.size;
            case 16:
                return now.water.day;
            default:
                return isIn(what, 9, 13) ? refusals[what - 9] : NONE;
        }
    }

    public int status() {
        return refusedBy;
    }

    // ---- what may be said ----

    private static boolean isIn(int number, int lowest, int highest) {
        return number >= lowest && number <= highest;
    }

    private static boolean isBoat(int boat) {
        return boat == 0 || boat == 1;
    }

    private static boolean isBell(int bell) {
        return isIn(bell, 0, BELLS - 1);
    }

    private static boolean ofSea(int x, int y) {
        return isIn(x, 0, SEA - 1) && isIn(y, 0, SEA - 1);
    }

    private static boolean isPace(int u, int v) {
        return isIn(u, -PACE, PACE) && isIn(v, -PACE, PACE);
    }

    private static boolean isRun(int x, int y, int u, int v) {
        return ofSea(x, y) && isPace(u, v);
    }

    private static boolean isAhead(int bell, int ahead) {
        return isBell(bell) && isIn(ahead, 1, MOST_AHEAD) && isBell(bell + ahead);
    }

    // ---- how calls end ----

    private int refuse(int why) {
        refusedBy = why;
        // There is no refusal by -4, so those below it lie one nearer.
        int slot = why < -3 ? -why - 2 : -why - 1;
        if (isIn(slot, 0, refusals.length - 1)) {
            refusals[slot]++;
        }
        return why;
    }

    private int accept(int answer) {
        refusedBy = 0;
        return answer;
    }

    private int changed(int answer) {
        chart.forget();
        tallies.forget();
        return accept(answer);
    }

    private int addTo(Rows rows, int a, int b, int c, int d, int e) {
        return rows.isFull() ? refuse(NO_ROOM) : accept(rows.add(a, b, c, d, e));
    }

    private int addChanging(Rows rows, int a, int b, int c, int d, int e) {
        return rows.isFull() ? refuse(NO_ROOM) : changed(rows.add(a, b, c, d, e));
    }

    // ---- directions ----

    /** At which direction a way lies, or behind which; NONE of no way. */
    private static int direction(int east, int north) {
        if (north > 0 && east >= -north && east < north) {
            return 10 + Math.floorDiv(ARM * east, north);
        }
        if (east > 0 && north > -east && north <= east) {
            return 30 + Math.floorDiv(-ARM * north, east);
        }
        if (north < 0 && east > north && east <= -north) {
            return 50 + Math.floorDiv(ARM * east, north);
        }
        if (east < 0) {
            return 70 + Math.floorDiv(-ARM * north, east);
        }
        return NONE;
    }

    private static int between(int one, int other) {
        int way = Math.floorMod(one - other, DIRECTIONS);
        return Math.min(way, DIRECTIONS - way);
    }

    // ---- smaller works ----

    private static int inWatch(Rows marks, int watch, int without) {
        int found = 0;
        for (int i = 0; i < marks.size; i++) {
            if (marks.at(i, 1) / BELLS_OF_WATCH == watch && (without >>> i & 1) == 0) {
                found++;
            }
        }
        return found;
    }

    private void feedNumber(int number) {
        for (int shift = 24; shift >= 0 && tapeSize < TAPE; shift -= 8) {
            tape[tapeSize] = number >>> shift & 255;
            tapeSize++;
        }
    }

    private boolean cameFromTape(int boat, int bell, int direction) {
        if (!isBoat(boat) || !isBell(bell) || direction >= DIRECTIONS) {
            return false;
        }
        return now.heard.add(boat, bell, direction, 0, 0) != NONE;
    }

    private int offerEast(int bell, int ahead, int offer) {
        return now.boats[0].east[bell] + ahead * now.offers.at(offer, 0);
    }

    private int offerNorth(int bell, int ahead, int offer) {
        return now.boats[0].north[bell] + ahead * now.offers.at(offer, 1);
    }

    private int offerSpeed(int offer) {
        return Math.max(Math.abs(now.offers.at(offer, 0)), Math.abs(now.offers.at(offer, 1)));
    }

    private int bestOffer(int bell, int ahead, int mostHearers) {
        int then = bell + ahead;
        int best = NONE;
        int fewest = 0;
        for (int i = 0; i < now.offers.size; i++) {
            int x = offerEast(bell, ahead, i);
            int y = offerNorth(bell, ahead, i);
            if (mostHearers >= chart.total || chart.hearers(0, then, offerSpeed(i), x, y) <= mostHearers) {
                int group = chart.largestGroup(then, x, y);
                if (best == NONE || group < fewest) {
                    best = i;
                    fewest = group;
                }
            }
        }
        return best;
    }

    private boolean screwFits(int turns, int blades) {
        if (now.beats.size == 0 || Math.abs(now.beats.at(0, 0) - turns * blades) > 1) {
            return false;
        }
        for (int i = 1; i < now.beats.size; i++) {
            if (!beatFits(now.beats.at(i, 0), turns)) {
                return false;
            }
        }
        return true;
    }

    private static boolean beatFits(int often, int turns) {
        for (int times = 1; times <= 21; times++) {
            if (Math.abs(often - turns * times) <= 1) {
                return true;
            }
        }
        return false;
    }

    private static long power(int base, int times) {
        long product = 1;
        for (int i = 0; i < times; i++) {
            product *= base;
        }
        return product;
    }

    /** What one look more at a cell adds, behind so many: whole parts of 100 to the sixth. */
    private long gain(int cell, int behind) {
        int find = now.cells.at(cell, 1);
        long left = now.cells.at(cell, 0) * power(100 - find, behind) * power(100, MOST_LOOKS - 1 - behind);
        return left * find;
    }

    /**
     * Each look goes where it adds most, the first cell of alike ones. A cell's gains never grow,
     * so this is the best of all ways, and the first of alike ones.
     */
    private long spreadLooks(int looks) {
        Arrays.fill(looksAt, 0);
        long found = 0;
        for (int look = 0; look < looks && now.cells.size > 0; look++) {
            int best = 0;
            for (int cell = 1; cell < now.cells.size; cell++) {
                if (gain(cell, looksAt[cell]) > gain(best, looksAt[best])) {
                    best = cell;
                }
            }
            found += gain(best, looksAt[best]);
            looksAt[best]++;
        }
        return found;
    }

    private static long commonDivisor(long a, long b) {
        long high = a;
        long low = b;
        // Numbers of 64 bits are through in fewer than a hundred steps.
        for (int i = 0; i < 200 && low != 0; i++) {
            long rest = high % low;
            high = low;
            low = rest;
        }
        return high;
    }

    // ---- classes inside ----

    /** Rows of numbers, so many at most. */
    private static final class Rows {
        private final int width;
        private final int most;
        private final int[] numbers;
        private int size = 0;

        Rows(int width, int most) {
            this.width = Math.max(1, width);
            this.most = Math.max(1, most);
            this.numbers = new int[this.width * this.most];
        }

        boolean isFull() {
            return size >= most;
        }

        int add(int a, int b, int c, int d, int e) {
            if (isFull()) {
                return NONE;
            }
            put(0, a);
            put(1, b);
            put(2, c);
            put(3, d);
            put(4, e);
            size++;
            return size - 1;
        }

        private void put(int column, int number) {
            if (column < width && size < most) {
                numbers[size * width + column] = number;
            }
        }

        int at(int i, int column) {
            if (i < 0 || i >= size || column < 0 || column >= width) {
                return 0;
            }
            return numbers[i * width + column];
        }

        void copy(Rows other) {
            System.arraycopy(other.numbers, 0, numbers, 0, Math.min(numbers.length, other.numbers.length));
            size = Math.min(most, other.size);
        }
    }

    /** A boat and where its legs bring it at each bell. */
    private static final class Boat {
        private final Rows legs = new Rows(3, 6);
        private final int[] east = new int[BELLS];
        private final int[] north = new int[BELLS];
        private final int[] speed = new int[BELLS];
        private int depth = 5;

        void start(int x, int y, int newDepth) {
            legs.size = 0;
            east[0] = x;
            north[0] = y;
            depth = newDepth;
            follow();
        }

        void follow() {
            int x = east[0];
            int y = north[0];
            int u = 0;
            int v = 0;
            int leg = 0;
            for (int bell = 0; bell < BELLS; bell++) {
                if (leg < legs.size && legs.at(leg, 0) == bell) {
                    u = legs.at(leg, 1);
                    v = legs.at(leg, 2);
                    leg++;
                }
                east[bell] = x;
                north[bell] = y;
                speed[bell] = Math.max(Math.abs(u), Math.abs(v));
                x += u;
                y += v;
            }
        }

        void copy(Boat other) {
            legs.copy(other.legs);
            System.arraycopy(other.east, 0, east, 0, BELLS);
            System.arraycopy(other.north, 0, north, 0, BELLS);
            System.arraycopy(other.speed, 0, speed, 0, BELLS);
            depth = other.depth;
        }
    }

    /** The layers of each day, and the rays that they bend. */
    private static final class Water {
        private final int[] slow = new int[DAYS * DEPTHS];
        private final int[] bends = new int[DEPTHS];
        private int day = 0;

        Water() {
            Arrays.fill(slow, 100);
        }

        int changeSlow(int depth, int value) {
            int place = day * DEPTHS + depth;
            if (place < 0 || place >= slow.length) {
                return NONE;
            }
            int was = slow[place];
            slow[place] = value;
            return was;
        }

        /** Of each range up to the last one: a bit for each depth at which one of the five rays is then. */
        void sendRays(int from, int last, int[] depths) {
            int end = Math.min(last, depths.length - 1);
            Arrays.fill(depths, 0);
            findBends();
            for (int leaving = -2; leaving <= 2; leaving++) {
                int depth = from;
                int slope = leaving;
                for (int range = 0; range <= end; range++) {
                    depths[range] |= 1 << depth;
                    slope = Math.max(-2, Math.min(2, slope + bends[depth]));
                    depth += slope;
                    if (depth < 0) {
                        depth = -depth;
                        slope = -slope;
                    } else if (depth > DEPTHS - 1) {
                        depth = 2 * (DEPTHS - 1) - depth;
                        slope = -slope;
                    }
                }
            }
        }

        private void findBends() {
            int first = Math.max(0, Math.min(DAYS - 1, day)) * DEPTHS;
            for (int depth = 0; depth < DEPTHS; depth++) {
                int below = slow[first + Math.min(depth + 1, DEPTHS - 1)];
                int above = slow[first + Math.max(depth - 1, 0)];
                bends[depth] = Integer.compare(below, above);
            }
        }

        /** Whether a bit stands for the depth, or for one off. */
        static boolean isNear(int depthBits, int depth) {
            return (depthBits & ((7 << depth) >> 1)) != 0;
        }

        void copy(Water other) {
            System.arraycopy(other.slow, 0, slow, 0, slow.length);
            day = other.day;
        }
    }

    /** All that an image keeps. */
    private static final class Book {
        private final Boat[] boats = {new Boat(), new Boat()};
        private final Water water = new Water();
        private final int[] terms = new int[TERM_FIRST.length];
        private final Rows heard = new Rows(3, MOST_HEARD);
        private final Rows echoes = new Rows(3, MOST_ECHOES);
        private final Rows wrecks = new Rows(5, 8);
        private final Rows shoals = new Rows(5, 6);
        private final Rows guesses = new Rows(4, 8);
        private final Rows offers = new Rows(2, 8);
        private final Rows beats = new Rows(1, 6);
        private final Rows cells = new Rows(2, MOST_CELLS);
        private final Law law = new Law();

        Book() {
            System.arraycopy(TERM_FIRST, 0, terms, 0, terms.length);
        }

        void copy(Book other) {
            boats[0].copy(other.boats[0]);
            boats[1].copy(other.boats[1]);
            water.copy(other.water);
            System.arraycopy(other.terms, 0, terms, 0, terms.length);
            heard.copy(other.heard);
            echoes.copy(other.echoes);
            wrecks.copy(other.wrecks);
            shoals.copy(other.shoals);
            guesses.copy(other.guesses);
            offers.copy(other.offers);
            beats.copy(other.beats);
            cells.copy(other.cells);
            law.copy(other.law);
        }
    }

    /**
     * Places of one east that fit a direction or a distance from a boat, told by the way there: all
     * norths from a lowest to a highest one but for those of a hole.
     *
     * A COLUMN is 32 such places, as bits from a lowest north on.
     */
    private static final class Band {
        private static final int HALF = DIRECTIONS / 2;
        private static final int UP = 10;
        private static final int DOWN = 50;
        private static final int BEYOND = 100000;

        private int lowest = 0;
        private int highest = NONE;
        private int holeLowest = 0;
        private int holeHighest = NONE;

        private void mark(int low, int high, int holeLow, int holeHigh) {
            lowest = low;
            highest = high;
            holeLowest = holeLow;
            holeHighest = holeHigh;
        }

        /** A band of those whose directions are at most error from one. */
        void arc(int direction, int error, int east) {
            if (east == 0) {
                boolean above = between(direction, UP) <= error;
                boolean below = between(direction, DOWN) <= error;
                mark(below ? -BEYOND : 1, above ? BEYOND : -1, 0, 0);
                return;
            }
            // Half a turn round takes all ways west to ways east: those have directions 10 .. 49,
            // the more to the south the higher, so an arc of them is a band without a hole.
            int start = Math.floorMod((east > 0 ? direction : direction + HALF) - error, DIRECTIONS);
            int end = start + 2 * error;
            int from = Math.max(start, UP);
            int to = Math.min(end, DOWN - 1);
            if (from > to) {
                from = Math.max(start - DIRECTIONS, UP);
                to = Math.min(end - DIRECTIONS, DOWN - 1);
            }
            int wide = Math.abs(east);
            int high = from > to ? -BEYOND : from == UP ? BEYOND : border(from, wide);
            int low = from > to ? BEYOND : to == DOWN - 1 ? -BEYOND : border(to + 1, wide) + 1;
            mark(east > 0 ? low : -high, east > 0 ? high : -low, 0, NONE);
        }

        /** How far north a direction (11 .. 49) leads at most so far east. */
        private static int border(int direction, int east) {
            int armEast = Math.min(ARM, Math.min(direction - UP, DOWN - direction));
            int armNorth = Math.max(-ARM, Math.min(ARM, 30 - direction));
            return armEast <= 0 ? 0 : Math.floorDiv(armNorth * east, armEast);
        }

        /** A band of those that are a distance away, or at most so much off. */
        void circle(int distance, int off, int east) {
            int least = Math.max(0, distance - off);
            int most = distance + off;
            int outer = root(most * most - east * east);
            int inner = root(least * least - east * east - 1);
            mark(-outer, outer, -inner, inner);
        }

        /** The greatest number whose square is not above; -1 without. */
        private static int root(int square) {
            if (square < 0) {
                return -1;
            }
            int found = 0;
            for (int bit = 64; bit > 0; bit >>= 1) {
                if ((found + bit) * (found + bit) <= square) {
                    found += bit;
                }
            }
            return found;
        }

        int column(int low) {
            int found = bits(lowest - low, highest - low);
            return found == 0 || holeLowest > holeHighest
                ? found : found & ~bits(holeLowest - low, holeHighest - low);
        }

        static int bits(int low, int high) {
            int first = Math.max(low, 0);
            int last = Math.min(high, SEA - 1);
            return first > last ? 0 : (-1 << first) & (-1 >>> (SEA - 1 - last));
        }
    }

    /** Which ranges count, asked by columns as a band tells them. */
    private static final class Rings {
        private final boolean[] counted = new boolean[FARTHEST + 1];
        private final int[] upright = new int[2 * FARTHEST + 1];

        void put(int range, boolean counts) {
            if (range >= 0 && range <= FARTHEST) {
                counted[range] = counts;
            }
        }

        /** To be called when all ranges are put: columns straight above and below, each from its lowest on. */
        void settle() {
            int column = 0;
            for (int low = FARTHEST; low >= -FARTHEST; low--) {
                column = (column << 1) | (counted[Math.abs(low)] ? 1 : 0);
                upright[low + FARTHEST] = column;
            }
        }

        int column(int east, int low) {
            int wide = Math.abs(east);
            if (wide > FARTHEST || low < -FARTHEST || low > FARTHEST) {
                return 0;
            }
            // As far up and down as it is wide, the east alone tells the range.
            int near = Band.bits(-wide - low, wide - low);
            return (upright[low + FARTHEST] & ~near) | (counted[wide] ? near : 0);
        }
    }

    /**
     * What is new, and the runs that fit it. Runs of one east and one pace lie in one LANE: a word
     * whose bits are their norths. Seven lanes of one east and one pace east are a SHEAF.
     */
    private static final class Chart {
        private final Book book;
        private final Rows[] fresh = {
            new Rows(3, MOST_HEARD + MOST_ECHOES), new Rows(3, MOST_HEARD + MOST_ECHOES)};
        private final Rings[] reach = {new Rings(), new Rings()};
        private final Rings hearing = new Rings();
        private final int[] depths = new int[FARTHEST + 1];
        private final int[] fits = new int[LANES];
        private final Band band = new Band();
        private final int[] sight = new int[PACES];
        private final int[] left = new int[PACES];
        private final int[] trial = new int[PACES];
        private final int[] groups = new int[DIRECTIONS + 1];
        private final int[] crossed = new int[MOST_PAIRS];
        private int knownHeard = 0;
        private int knownEchoes = 0;
        private int total = 0;
        private boolean sorted = false;
        private boolean tuned = false;
        private boolean plotted = false;

        Chart(Book book) {
            this.book = book;
        }

        void forget() {
            sorted = false;
            tuned = false;
            plotted = false;
        }

        /** Parts what is known from what is new. */
        void sortOut() {
            if (sorted) {
                return;
            }
            fresh[0].size = 0;
            fresh[1].size = 0;
            knownHeard = sortKind(HEARD, book.heard);
            knownEchoes = sortKind(ECHO, book.echoes);
            sorted = true;
        }

        /** Finds in which ranges each boat is reached. */
        void tune() {
            if (tuned) {
                return;
            }
            book.water.sendRays(book.terms[TARGET_DEPTH], FARTHEST, depths);
            for (int boat = 0; boat < 2; boat++) {
                for (int range = 0; range <= FARTHEST; range++) {
                    reach[boat].put(range, Water.isNear(depths[range], book.boats[boat].depth));
                }
                reach[boat].settle();
            }
            tuned = true;
        }

        private int sortKind(int kind, Rows marks) {
            int known = 0;
            for (int i = 0; i < marks.size; i++) {
                int boat = marks.at(i, 0);
                int bell = marks.at(i, 1);
                int value = marks.at(i, 2);
                if (isAnswered(book.wrecks, kind, boat, bell, value)
                    || isAnswered(book.shoals, kind, boat, bell, value)) {
                    known |= 1 << i;
                } else if (isBoat(boat)) {
                    fresh[boat].add(kind, bell, value, 0, 0);
                }
            }
            return known;
        }

        /** Whether one of such places is there at a bell and fits what a boat has then. */
        private boolean isAnswered(Rows places, int kind, int boat, int bell, int value) {
            if (!isBoat(boat) || !isBell(bell)) {
                return false;
            }
            for (int i = 0; i < places.size; i++) {
                int wide = places.at(i, 2);
                int low = places.at(i, 1) - wide - book.boats[boat].north[bell];
                int middle = places.at(i, 0) - book.boats[boat].east[bell];
                boolean isThere = isIn(bell, places.at(i, 3), places.at(i, 4));
                for (int east = middle - wide; isThere && east <= middle + wide; east++) {
                    if (kind == HEARD) {
                        band.arc(value, book.terms[ERROR], east);
                    } else {
                        band.circle(value, book.terms[OFF], east);
                    }
                    if ((band.column(low) & Band.bits(0, 2 * wide)) != 0) {
                        return true;
                    }
                }
            }
            return false;
        }

        /** Finds what of a sheaf's lanes fits the i-th of what is new of a boat, if that is at a bell; tuned. */
        void look(int boat, int i, int bell, int sheaf) {
            if (!isBoat(boat) || !isBell(bell)) {
                Arrays.fill(sight, 0);
                return;
            }
            int east = eastOf(sheaf * PACES, bell) - book.boats[boat].east[bell];
            int value = fresh[boat].at(i, 2);
            if (fresh[boat].at(i, 0) == HEARD) {
                band.arc(value, book.terms[ERROR], east);
            } else {
                band.circle(value, book.terms[OFF], east);
            }
            for (int v = 0; v < PACES; v++) {
                int low = lowOf(v, bell) - book.boats[boat].north[bell];
                int places = band.column(low);
                sight[v] = places == 0 ? 0 : places & reach[boat].column(east, low);
            }
        }

        void plot() {
            sortOut();
            if (plotted) {
                return;
            }
            tune();
            Arrays.fill(fits, 0);
            total = 0;
            for (int sheaf = 0; sheaf < SHEAVES; sheaf++) {
                plotSheaf(sheaf);
                total += countFrom(sheaf * PACES, PACES, -1);
            }
            plotted = true;
        }

        private void plotSheaf(int sheaf) {
            Arrays.fill(left, -1);
            boolean some = narrow(left, 0, 0, sheaf);
            if (fresh[1].size == 0) {
                System.arraycopy(left, 0, fits, sheaf * PACES, PACES);
                return;
            }
            int apart = book.terms[APART];
            for (int shift = -apart; some && shift <= apart; shift++) {
                System.arraycopy(left, 0, trial, 0, PACES);
                if (narrow(trial, 1, shift, sheaf)) {
                    for (int v = 0; v < PACES; v++) {
                        fits[sheaf * PACES + v] |= trial[v];
                    }
                }
            }
        }

        /** Leaves of a sheaf's lanes what fits all that is new of a boat, its bells shifted: whether that is some. */
        private boolean narrow(int[] lanes, int boat, int shift, int sheaf) {
            boolean some = true;
            for (int i = 0; i < fresh[boat].size && some; i++) {
                look(boat, i, fresh[boat].at(i, 1) + shift, sheaf);
                some = false;
                for (int v = 0; v < PACES; v++) {
                    lanes[v] &= sight[v];
                    some = some || lanes[v] != 0;
                }
            }
            return some;
        }

        static int eastOf(int lane, int bell) {
            return lane / (PACES * PACES) + (lane / PACES % PACES - PACE) * bell;
        }

        static int lowOf(int lane, int bell) {
            return (lane % PACES - PACE) * bell;
        }

        /** A run's number by its order among all. */
        static int codeOf(int lane, int y) {
            int paces = PACES * PACES;
            return lane / paces * SEA * paces + y * paces + lane % paces;
        }

        /** Of the i-th run that fits: its place, its pace. */
        int pick(int i, int what) {
            int paces = PACES * PACES;
            int left = i;
            int first = 0;
            int here = countFrom(first, paces, -1);
            while (first + paces < LANES && left >= here) {
                left -= here;
                first += paces;
                here = countFrom(first, paces, -1);
            }
            int y = 0;
            here = countFrom(first, paces, 1);
            while (y < SEA - 1 && left >= here) {
                left -= here;
                y++;
                here = countFrom(first, paces, 1 << y);
            }
            int lane = first;
            while (lane < first + paces - 1 && left >= (fits[lane] >>> y & 1)) {
                left -= fits[lane] >>> y & 1;
                lane++;
            }
            switch (what) {
                case 0:
                    return lane / paces;
                case 1:
                    return y;
                case 2:
                    return lane / PACES % PACES - PACE;
                default:
                    return lane % PACES - PACE;
            }
        }

        private int countFrom(int first, int lanes, int norths) {
            int found = 0;
            for (int lane = first; lane < first + lanes && lane < LANES; lane++) {
                found += Integer.bitCount(fits[lane] & norths);
            }
            return found;
        }

        /** The outermost place of all runs that fit, some of which there must be. */
        int edge(int bell, int what) {
            boolean greatest = what % 2 == 1;
            int found = greatest ? -BELLS * SEA : BELLS * SEA;
            for (int lane = 0; lane < LANES; lane++) {
                if (fits[lane] != 0) {
                    int place = eastOf(lane, bell);
                    if (what >= 2) {
                        place = lowOf(lane, bell) + (greatest ? highestBit(fits[lane]) : lowestBit(fits[lane]));
                    }
                    found = greatest ? Math.max(found, place) : Math.min(found, place);
                }
            }
            return found;
        }

        static int lowestBit(int word) {
            return Integer.bitCount((word & -word) - 1);
        }

        private static int highestBit(int word) {
            int filled = word;
            for (int shift = 1; shift < SEA; shift *= 2) {
                filled |= filled >>> shift;
            }
            return Integer.bitCount(filled) - 1;
        }

        int inSquare(int bell, int x, int y, int wide) {
            int found = 0;
            for (int lane = 0; lane < LANES; lane++) {
                if (Math.abs(eastOf(lane, bell) - x) <= wide) {
                    int low = lowOf(lane, bell);
                    found += Integer.bitCount(fits[lane] & Band.bits(y - wide - low, y + wide - low));
                }
            }
            return found;
        }

        /** How many runs that fit are in one direction from a place at a bell, where most are. */
        int largestGroup(int bell, int x, int y) {
            Arrays.fill(groups, 0);
            for (int lane = 0; lane < LANES; lane++) {
                if (fits[lane] != 0) {
                    groupLane(fits[lane], eastOf(lane, bell) - x, lowOf(lane, bell) - y);
                }
            }
            int largest = 0;
            for (int i = 0; i < groups.length; i++) {
                largest = Math.max(largest, groups[i]);
            }
            return largest;
        }

        private void groupLane(int norths, int east, int low) {
            for (int y = 0; y < SEA; y++) {
                if ((norths >>> y & 1) != 0) {
                    int group = direction(east, low + y);
                    groups[group == NONE ? DIRECTIONS : group]++;
                }
            }
        }

        /** How many runs that fit hear a boat that is at a place at a bell with a speed. */
        int hearers(int boat, int bell, int speed, int x, int y) {
            if (total == 0 || !isBoat(boat)) {
                return 0;
            }
            int depth = book.boats[boat].depth;
            book.law.pose(speed, depth, bell, boat);
            book.water.sendRays(depth, FARTHEST, depths);
            for (int range = 0; range <= FARTHEST; range++) {
                boolean reached = Water.isNear(depths[range], book.terms[TARGET_DEPTH]);
                hearing.put(range, reached && book.law.isLoud(range));
            }
            hearing.settle();
            int found = 0;
            for (int lane = 0; lane < LANES; lane++) {
                if (fits[lane] != 0) {
                    int heard = hearing.column(eastOf(lane, bell) - x, lowOf(lane, bell) - y);
                    found += Integer.bitCount(fits[lane] & heard);
                }
            }
            return found;
        }

        /** The place among what is new of a boat of its n-th heard one at a bell. */
        int freshHeard(int boat, int bell, int n) {
            int left = n;
            for (int i = 0; n >= 0 && i < fresh[boat].size; i++) {
                if (fresh[boat].at(i, 0) == HEARD && fresh[boat].at(i, 1) == bell) {
                    if (left == 0) {
                        return i;
                    }
                    left--;
                }
            }
            return NONE;
        }

        int crossings(int bell, int one, int other) {
            tune();
            int found = 0;
            for (int x = 0; x < SEA; x++) {
                // Who lies still from there on is there at each bell.
                int still = x * PACES + PACE;
                look(0, one, bell, still);
                int places = sight[PACE];
                if (places != 0) {
                    look(1, other, bell, still);
                    found += Integer.bitCount(places & sight[PACE]);
                }
            }
            return found;
        }

        /** Finds which pairs cross at a bell: how many pairs a pairing has, 0 if there can be none. */
        int crossAll(int bell) {
            int pairs = 0;
            while (pairs <= MOST_PAIRS && freshHeard(0, bell, pairs) != NONE) {
                pairs++;
            }
            boolean alike = freshHeard(1, bell, pairs) == NONE && freshHeard(1, bell, pairs - 1) != NONE;
            if (pairs > MOST_PAIRS || !alike) {
                return 0;
            }
            for (int i = 0; i < pairs; i++) {
                crossed[i] = 0;
                for (int k = 0; k < pairs; k++) {
                    if (crossings(bell, freshHeard(0, bell, i), freshHeard(1, bell, k)) > 0) {
                        crossed[i] |= 1 << k;
                    }
                }
            }
            return pairs;
        }

        void keepPair(int i, int k) {
            if (i >= 0 && i < MOST_PAIRS) {
                crossed[i] &= 1 << k;
            }
        }

        /** In how many ways those from i on take others that are not taken. */
        private int ways(int i, int taken, int pairs) {
            if (i >= pairs || i >= MOST_PAIRS) {
                return 1;
            }
            int found = 0;
            for (int k = 0; k < pairs; k++) {
                if ((crossed[i] & ~taken & 1 << k) != 0) {
                    found += ways(i + 1, taken | 1 << k, pairs);
                }
            }
            return found;
        }
    }

    /**
     * How much that is new each run does not fit. The counts of a lane's 32 runs stand upright in
     * PLANES: bit y of its p-th one is the p-th binary digit of the count of the run from y. A
     * sheaf's planes stand lane behind lane.
     */
    private static final class Tallies {
        private static final int PLANES = 6;

        private final Book book;
        private final Chart chart;
        private final int[] ofFirst = new int[PACES * PLANES];
        private final int[] ofBoth = new int[PACES * PLANES];
        private final int[] best = new int[PACES * PLANES];
        private final int[] howMany = new int[1 << PLANES];
        private int fewest = 0;
        private int first = 0;
        private boolean reckoned = false;

        Tallies(Book book, Chart chart) {
            this.book = book;
            this.chart = chart;
        }

        void forget() {
            reckoned = false;
        }

        void reckon() {
            if (reckoned) {
                return;
            }
            chart.sortOut();
            chart.tune();
            Arrays.fill(howMany, 0);
            fewest = howMany.length;
            for (int sheaf = 0; sheaf < SHEAVES; sheaf++) {
                tally(sheaf);
                for (int v = 0; v < PACES; v++) {
                    spread(-1, v * PLANES, PLANES - 1, 0);
                    noteFewest(sheaf * PACES + v, v * PLANES);
                }
            }
            reckoned = true;
        }

        int missesOf(int x, int y, int u, int v) {
            chart.sortOut();
            chart.tune();
            tally(x * PACES + u + PACE);
            int from = (v + PACE) * PLANES;
            int found = 0;
            for (int p = 0; p < PLANES; p++) {
                found |= (best[from + p] >>> y & 1) << p;
            }
            return found;
        }

        /** How many runs have fewer misses; to be asked when all are reckoned. */
        int below(int misses) {
            int found = 0;
            for (int m = 0; m < misses && m < howMany.length; m++) {
                found += howMany[m];
            }
            return found;
        }

        private void tally(int sheaf) {
            Arrays.fill(ofFirst, 0);
            addMisses(ofFirst, 0, 0, sheaf);
            if (chart.fresh[1].size == 0) {
                System.arraycopy(ofFirst, 0, best, 0, best.length);
                return;
            }
            Arrays.fill(best, -1);
            int apart = book.terms[APART];
            for (int shift = -apart; shift <= apart; shift++) {
                System.arraycopy(ofFirst, 0, ofBoth, 0, ofBoth.length);
                addMisses(ofBoth, 1, shift, sheaf);
                for (int v = 0; v < PACES; v++) {
                    takeFewer(v * PLANES);
                }
            }
        }

        private void addMisses(int[] planes, int boat, int shift, int sheaf) {
            for (int i = 0; i < chart.fresh[boat].size; i++) {
                chart.look(boat, i, chart.fresh[boat].at(i, 1) + shift, sheaf);
                for (int v = 0; v < PACES; v++) {
                    int carry = ~chart.sight[v];
                    for (int p = v * PLANES; p < (v + 1) * PLANES && carry != 0; p++) {
                        int both = planes[p] & carry;
                        planes[p] ^= carry;
                        carry = both;
                    }
                }
            }
        }

        /** Where the counts of both boats are below a lane's best ones, they become the best. */
        private void takeFewer(int from) {
            int fewer = 0;
            int alike = -1;
            for (int p = from + PLANES - 1; p >= from; p--) {
                fewer |= alike & ~ofBoth[p] & best[p];
                alike &= ~(ofBoth[p] ^ best[p]);
            }
            for (int p = from; p < from + PLANES; p++) {
                best[p] = (ofBoth[p] & fewer) | (best[p] & ~fewer);
            }
        }

        /** Counts the runs among these whose counts begin with such digits, digit by digit. */
        private void spread(int among, int from, int digit, int digits) {
            if (among == 0) {
                return;
            }
            if (digit < 0) {
                howMany[digits & (howMany.length - 1)] += Integer.bitCount(among);
                return;
            }
            spread(among & ~best[from + digit], from, digit - 1, digits);
            spread(among & best[from + digit], from, digit - 1, digits | (1 << digit));
        }

        private void noteFewest(int lane, int from) {
            int among = -1;
            int misses = 0;
            for (int p = PLANES - 1; p >= 0; p--) {
                int lower = among & ~best[from + p];
                if (lower == 0) {
                    misses |= 1 << p;
                } else {
                    among = lower;
                }
            }
            int code = Chart.codeOf(lane, Chart.lowestBit(among));
            if (misses < fewest || (misses == fewest && code < first)) {
                fewest = misses;
                first = code;
            }
        }
    }

    /** What can be next of what is heard by one boat, and the most that can be joined. */
    private static final class Joins {
        private final Book book;
        private final int[] nexts = new int[MOST_HEARD];
        private final int[] trial = new int[MOST_HEARD];
        private final int[] ahead = new int[MOST_HEARD];
        private int visited = 0;
        private int members = 0;
        private int most = 0;

        Joins(Book book) {
            this.book = book;
        }

        void draw(int boat) {
            members = 0;
            for (int i = 0; i < MOST_HEARD; i++) {
                nexts[i] = 0;
                if (i < book.heard.size && book.heard.at(i, 0) == boat) {
                    members++;
                    nexts[i] = nextsOf(i, boat);
                }
            }
            most = join(nexts);
        }

        private int nextsOf(int i, int boat) {
            int found = 0;
            for (int k = 0; k < book.heard.size; k++) {
                int later = book.heard.at(k, 1) - book.heard.at(i, 1);
                if (book.heard.at(k, 0) == boat && later >= 1 && later <= book.terms[GAP]) {
                    int turned = between(book.heard.at(i, 2), book.heard.at(k, 2));
                    if (turned <= book.terms[TURN] * later) {
                        found |= 1 << k;
                    }
                }
            }
            return found;
        }

        private int join(int[] rows) {
            Arrays.fill(ahead, NONE);
            int joined = 0;
            for (int i = 0; i < MOST_HEARD; i++) {
                visited = 0;
                if (joinOne(rows, i, 0)) {
                    joined++;
                }
            }
            return joined;
        }

        /** Gives i one that is next, if others may have to take other ones. */
        private boolean joinOne(int[] rows, int i, int depth) {
            if (i < 0 || i >= MOST_HEARD || depth > MOST_HEARD) {
                return false;
            }
            for (int k = 0; k < MOST_HEARD; k++) {
                if ((rows[i] & ~visited & 1 << k) != 0) {
                    visited |= 1 << k;
                    if (ahead[k] == NONE || joinOne(rows, ahead[k], depth + 1)) {
                        ahead[k] = i;
                        return true;
                    }
                }
            }
            return false;
        }

        /** Whether as much can be joined with k next of i; trial has what can be next then. */
        private boolean canBe(int i, int k) {
            for (int j = 0; j < MOST_HEARD; j++) {
                trial[j] = nexts[j] & ~(1 << k);
            }
            trial[i] = 1 << k;
            return join(trial) == most;
        }

        int firstNext(int asked) {
            int found = NONE;
            for (int i = 0; i <= asked && i < MOST_HEARD; i++) {
                found = NONE;
                for (int k = 0; k < MOST_HEARD && found == NONE; k++) {
                    if ((nexts[i] & 1 << k) != 0 && canBe(i, k)) {
                        found = k;
                        System.arraycopy(trial, 0, nexts, 0, MOST_HEARD);
                    }
                }
                if (found == NONE) {
                    nexts[i] = 0;
                }
            }
            return found;
        }

        int certainty(int i, int k) {
            if (i < 0 || i >= MOST_HEARD || (nexts[i] & 1 << k) == 0 || !canBe(i, k)) {
                return 0;
            }
            System.arraycopy(nexts, 0, trial, 0, MOST_HEARD);
            trial[i] &= ~(1 << k);
            return join(trial) < most ? 2 : 1;
        }
    }

    /**
     * The law, each clause as two rows of steps, its sum's and its test's, for a pile of numbers
     * (a test leaves 1 or 0).
     */
    private static final class Law {
        private static final int NUMBER = 0;
        private static final int WORD = 1;
        private static final int PLUS = 2;
        private static final int MINUS = 3;
        private static final int TIMES = 4;
        private static final int OVER = 5;
        private static final int BELOW = 6;
        private static final int ABOVE = 7;
        private static final int EQUAL = 8;
        private static final int NOT = 9;
        private static final int OR = 10;
        private static final int AND = 11;
        private static final int SPEED = 0;
        private static final int DEPTH = 1;
        private static final int RANGE = 2;
        private static final int BELL = 3;
        private static final int BOAT = 4;
        private static final int MOST_CLAUSES = 12;
        private static final long LIMIT = 1000000000L;
        private static final long BROKEN = LIMIT + 1;

        // Of a clause: its head, where its sum begins, where its test begins, where that ends.
        private final Rows clauses = new Rows(4, MOST_CLAUSES);
        private final int[] steps = new int[TAPE];
        private final int[] with = new int[TAPE];
        private final int[] asked = new int[5];
        private final long[] pile = new long[64];
        private int size = 0;
        private int height = 0;

        void clear() {
            clauses.size = 0;
            size = 0;
        }

        void add(int step, int number) {
            if (size < TAPE) {
                steps[size] = step;
                with[size] = number;
                size++;
            }
        }

        /** Lets the step at a place lead on to what comes now. */
        void leadHere(int place) {
            if (place >= 0 && place < size) {
                with[place] = size;
            }
        }

        void copy(Law other) {
            clauses.copy(other.clauses);
            System.arraycopy(other.steps, 0, steps, 0, TAPE);
            System.arraycopy(other.with, 0, with, 0, TAPE);
            size = other.size;
        }

        void pose(int speed, int depth, int bell, int boat) {
            asked[SPEED] = speed;
            asked[DEPTH] = depth;
            asked[BELL] = bell;
            asked[BOAT] = boat;
        }

        boolean isLoud(int range) {
            return (long) answer(NOISE, range) - answer(LOSS, range) >= answer(EAR, range);
        }

        int answer(int head, int range) {
            asked[RANGE] = range;
            for (int i = clauses.size - 1; i >= 0; i--) {
                if (clauses.at(i, 0) == head && holds(i)) {
                    return (int) pile[0];
                }
            }
            return 0;
        }

        /** Whether a clause holds; its sum's number lies on the pile then. */
        private boolean holds(int i) {
            int sum = clauses.at(i, 1);
            int test = clauses.at(i, 2);
            int end = clauses.at(i, 3);
            if (test < end && (!work(test, end) || pile[0] == 0)) {
                return false;
            }
            return work(sum, test);
        }

        /** Takes steps: whether nothing was broken. */
        private boolean work(int from, int to) {
            height = 0;
            for (int i = Math.max(0, from); i < to && i < size; i++) {
                int step = steps[i];
                if (step == NUMBER) {
                    lay(with[i]);
                } else if (step == WORD) {
                    lay(asked[Math.floorMod(with[i], asked.length)]);
                } else if (height < 1) {
                    return false;
                } else if (step == NOT) {
                    pile[height - 1] = 1 - pile[height - 1];
                } else if (step == OR || step == AND) {
                    if ((pile[height - 1] != 0) == (step == OR)) {
                        i = Math.max(i, with[i] - 1);
                    } else {
                        height--;
                    }
                } else if (!joinTwo(step)) {
                    return false;
                }
            }
            return height == 1;
        }

        private void lay(long number) {
            if (height < pile.length) {
                pile[height] = number;
                height++;
            }
        }

        /** Puts what two numbers on the pile give in their place, if it isn't broken. */
        private boolean joinTwo(int step) {
            if (height < 2) {
                return false;
            }
            long left = pile[height - 2];
            long right = pile[height - 1];
            long found;
            switch (step) {
                case PLUS:
                    found = left + right;
                    break;
                case MINUS:
                    found = left - right;
                    break;
                case TIMES:
                    found = left * right;
                    break;
                case OVER:
                    found = right == 0 ? BROKEN : left / right;
                    break;
                case BELOW:
                    found = left < right ? 1 : 0;
                    break;
                case ABOVE:
                    found = left > right ? 1 : 0;
                    break;
                default:
                    found = left == right ? 1 : 0;
                    break;
            }
            height--;
            pile[height - 1] = found;
            return found >= -LIMIT && found <= LIMIT;
        }
    }

    /**
     * Reads a law from a tape. Each reading method leaves the token behind what it has read; one
     * that answers false leaves the first token that can't go on.
     */
    private static final class LawReader {
        private static final int LETTERS = 0;
        private static final int DIGITS = 1;
        private static final int OTHER = 2;
        private static final int END = 3;
        private static final int MOST_PARTS = 50;
        private static final int MOST_BRACKETS = 8;
        private static final int MOST_NUMBER = 1000;

        private final Law draft = new Law();
        private int[] text = new int[0];
        private int length = 0;
        private int kind = END;
        private int tokenFrom = 0;
        private int tokenTo = 0;
        private int parted = 0;

        /** Reads a text into the draft: the place of its fault; NONE without. */
        int read(int[] tape, int size) {
            text = tape;
            length = Math.max(0, Math.min(size, tape.length));
            tokenTo = 0;
            parted = 0;
            draft.clear();
            move();
            if (!readClause()) {
                return tokenFrom;
            }
            for (int i = 0; i < length && isSign(';'); i++) {
                move();
                if (draft.clauses.isFull() || !readClause()) {
                    return tokenFrom;
                }
            }
            return kind == END ? NONE : tokenFrom;
        }

        private boolean readClause() {
            int head = isWord("noise") ? NOISE : isWord("loss") ? LOSS : isWord("ear") ? EAR : NONE;
            if (head == NONE) {
                return false;
            }
            move();
            int sum = draft.size;
            if (!readSum(0)) {
                return false;
            }
            int test = draft.size;
            if (isWord("if")) {
                move();
                if (!readTest(0)) {
                    return false;
                }
            }
            draft.clauses.add(head, sum, test, draft.size, 0);
            return true;
        }

        private boolean readTest(int brackets) {
            if (!readBoth(brackets)) {
                return false;
            }
            for (int i = 0; i < length && isWord("or"); i++) {
                int place = draft.size;
                draft.add(Law.OR, 0);
                move();
                if (!readBoth(brackets)) {
                    return false;
                }
                draft.leadHere(place);
            }
            return true;
        }

        private boolean readBoth(int brackets) {
            if (!readPlain(brackets)) {
                return false;
            }
            for (int i = 0; i < length && isWord("and"); i++) {
                int place = draft.size;
                draft.add(Law.AND, 0);
                move();
                if (!readPlain(brackets)) {
                    return false;
                }
                draft.leadHere(place);
            }
            return true;
        }

        private boolean readPlain(int brackets) {
            boolean turned = false;
            for (int i = 0; i < length && isWord("not"); i++) {
                turned = !turned;
                move();
            }
            boolean good = isSign('(') ? readInner(brackets, ')') : readComparison(brackets);
            if (good && turned) {
                draft.add(Law.NOT, 0);
            }
            return good;
        }

        private boolean readInner(int brackets, char closing) {
            if (brackets >= MOST_BRACKETS) {
                return false;
            }
            move();
            boolean good = closing == ')' ? readTest(brackets + 1) : readSum(brackets + 1);
            if (!good || !isSign(closing)) {
                return false;
            }
            move();
            return true;
        }

        private boolean readComparison(int brackets) {
            if (!readSum(brackets)) {
                return false;
            }
            int step = isSign('<') ? Law.BELOW : isSign('>') ? Law.ABOVE : isSign('=') ? Law.EQUAL : NONE;
            if (step == NONE) {
                return false;
            }
            move();
            if (!readSum(brackets)) {
                return false;
            }
            draft.add(step, 0);
            return true;
        }

        private boolean readSum(int brackets) {
            if (!readTerm(brackets)) {
                return false;
            }
            for (int i = 0; i < length && (isSign('+') || isSign('-')); i++) {
                int step = isSign('+') ? Law.PLUS : Law.MINUS;
                move();
                if (!readTerm(brackets)) {
                    return false;
                }
                draft.add(step, 0);
            }
            return true;
        }

        private boolean readTerm(int brackets) {
            if (!readPart(brackets)) {
                return false;
            }
            for (int i = 0; i < length && (isSign('*') || isSign('/')); i++) {
                int step = isSign('*') ? Law.TIMES : Law.OVER;
                move();
                if (!readPart(brackets)) {
                    return false;
                }
                draft.add(step, 0);
            }
            return true;
        }

        private boolean readPart(int brackets) {
            if (isSign('[')) {
                return readInner(brackets, ']');
            }
            boolean isNumber = kind == DIGITS;
            int value = isNumber ? number() : wordAsked();
            if (value == NONE || isNumber && value > MOST_NUMBER || parted >= MOST_PARTS) {
                return false;
            }
            parted++;
            draft.add(isNumber ? Law.NUMBER : Law.WORD, value);
            move();
            return true;
        }

        private int wordAsked() {
            if (isWord("speed")) {
                return Law.SPEED;
            }
            if (isWord("depth")) {
                return Law.DEPTH;
            }
            if (isWord("range")) {
                return Law.RANGE;
            }
            if (isWord("bell")) {
                return Law.BELL;
            }
            return isWord("boat") ? Law.BOAT : NONE;
        }

        /** The token's number, or one that is too great as well. */
        private int number() {
            int value = 0;
            for (int i = tokenFrom; i < tokenTo && value <= MOST_NUMBER; i++) {
                value = value * 10 + text[i] - '0';
            }
            return value;
        }

        private void move() {
            int place = tokenTo;
            while (place < length && text[place] == ' ') {
                place++;
            }
            tokenFrom = place;
            kind = kindAt(place);
            if (kind != END) {
                place++;
            }
            while (kind < OTHER && place < length && kindAt(place) == kind) {
                place++;
            }
            tokenTo = place;
        }

        private int kindAt(int place) {
            if (place >= length) {
                return END;
            }
            if (text[place] >= 'a' && text[place] <= 'z') {
                return LETTERS;
            }
            return text[place] >= '0' && text[place] <= '9' ? DIGITS : OTHER;
        }

        private boolean isSign(char sign) {
            return kind == OTHER && tokenFrom < length && text[tokenFrom] == sign;
        }

        private boolean isWord(String word) {
            if (kind != LETTERS || tokenTo - tokenFrom != word.length()) {
                return false;
            }
            for (int i = 0; i < word.length(); i++) {
                if (text[tokenFrom + i] != word.charAt(i)) {
                    return false;
                }
            }
            return true;
        }
    }
}
