/** What the promises themselves say of edges: numbers that can't be asked for, what is full or empty. */
public final class EdgesOfPromisesTest {
    private static final Due DUE = new Due("EdgesOfPromisesTest");
    private static final int LOW = Integer.MIN_VALUE;
    private static final int HIGH = Integer.MAX_VALUE;

    public static void main(String[] args) {
        boatAndLegs();
        where();
        termsDayLayer();
        reaches();
        bearing();
        known();
        feed();
        end();
        row();
        torn();
        lawAndFault();
        run();
        span();
        misses();
        alone();
        within();
        least();
        better();
        parts();
        turnAndSilent();
        traces();
        sure();
        watch();
        cross();
        screw();
        tells();
        search();
        images();
        fullCounts();
        codes();
        count();
        status();
        DUE.finish();
    }

    private static void boatAndLegs() {
        DUE.sentence("START, DEPTH of a BOAT (its LEGS go): how many LEGS it had.");
        for (int legs = 0; legs <= 6; legs++) {
            HullEars x = new HullEars();
            for (int k = 0; k < legs; k++) {
                DUE.same("how many it has", x.leg(1, k, 3, 3), k + 1);
            }
            DUE.same("how many it had", x.boat(1, 31, 31, 0), legs);
            DUE.same("they went", x.where(1, 23, 0), 31);
            DUE.same("they went", x.where(1, 23, 2), 0);
            DUE.same("there are none", x.boat(1, 0, 0, 9), 0);
        }
    }

    private static void where() {
        DUE.sentence("east (what 0), north (1), its SPEED (2). NOTHING (-1000) without.");
        HullEars x = new HullEars();
        x.boat(1, 3, 5, 5);
        x.leg(1, 0, 0, 1);
        int[] due = {3, 28, 1};
        for (int what = 0; what <= 2; what++) {
            DUE.same("what " + what, x.where(1, 23, what), due[what]);
        }
        int[] wrong = {-1, 3, LOW, HIGH};
        for (int w : wrong) {
            DUE.same("what " + w, x.where(1, 23, w), -1000);
        }
    }

    private static void termsDayLayer() {
        DUE.sentence("A TERM: what it was. -1.");
        HullEars x = new HullEars();
        DUE.same("what it was", x.terms(0, 1), 1);
        DUE.same("the same again", x.terms(0, 1), 1);
        DUE.same("another", x.terms(0, 0), 1);
        DUE.same("nought", x.terms(0, 5), 0);
        DUE.sentence("A DAY is in use: which was. -1.");
        DUE.same("the same again", x.day(0), 0);
        DUE.same("another", x.day(1), 0);
        DUE.same("the same again", x.day(1), 1);
        DUE.sentence("SLOW of a LAYER of the DAY in use: what it was. -1.");
        DUE.same("what it was", x.layer(0, 0), 100);
        DUE.same("nought", x.layer(0, 200), 0);
        DUE.same("the greatest", x.layer(0, 200), 200);
        x.day(2);
        DUE.same("of the day in use", x.layer(0, 200), 100);
    }

    private static void reaches() {
        DUE.sentence("Whether a SOUND REACHES a DEPTH from another one in a RANGE 0 .. 200: 1, 0. NONE.");
        HullEars x = new HullEars();
        int[] noDepths = {-1, 10, LOW, HIGH};
        for (int w : noDepths) {
            DUE.same("from " + w, x.reaches(w, 5, 5), -1);
            DUE.same("to " + w, x.reaches(5, w, 5), -1);
        }
        int[] noRanges = {-1, 201, LOW, HIGH};
        for (int w : noRanges) {
            DUE.same("range " + w, x.reaches(5, 5, w), -1);
        }
        int[] ends = {0, 9};
        for (int depth : ends) {
            DUE.same("range 0", x.reaches(depth, depth, 0), 1);
            DUE.same("range 200", x.reaches(depth, depth, 200), 1);
            DUE.same("across in none", x.reaches(depth, 9 - depth, 0), 0);
        }
    }

    private static void bearing() {
        DUE.sentence("BEARING of a way (-1000 .. 1000 each). NONE (0, 0, too).");
        HullEars x = new HullEars();
        int[] within = {-1000, 1000};
        int[] beyond = {-1001, 1001, LOW, HIGH};
        for (int in : within) {
            DUE.same("east " + in, x.bearing(in, 0), in > 0 ? 30 : 70);
            DUE.same("north " + in, x.bearing(0, in), in > 0 ? 10 : 50);
            for (int out : beyond) {
                DUE.same("east " + out, x.bearing(out, in), -1);
                DUE.same("north " + out, x.bearing(in, out), -1);
            }
        }
        DUE.same("0, 0", x.bearing(0, 0), -1);
        DUE.same("the corner", x.bearing(-1000, 1000), 0);
        DUE.same("a hair's breadth", x.bearing(1, 1000), 10);
        DUE.same("a hair's breadth", x.bearing(-1, 1000), 9);
        DUE.same("a hair's breadth", x.bearing(1000, 1), 29);
        DUE.same("a hair's breadth", x.bearing(-1000, -1), 69);
        DUE.same("a hair's breadth", x.bearing(-1, -1000), 50);
        DUE.same("a hair's breadth", x.bearing(1, -1000), 49);
    }

    private static void known() {
        DUE.sentence("Whether something HEARD (what 0), an ECHO (1) is KNOWN: 1, 0. NONE.");
        HullEars x = new HullEars();
        DUE.same("nothing heard", x.known(0, 0), -1);
        DUE.same("no echo", x.known(1, 0), -1);
        x.heard(0, 0, 30);
        DUE.same("no echo still", x.known(1, 0), -1);
        DUE.same("new", x.known(0, 0), 0);
        x.wreck(31, 0);
        DUE.same("known", x.known(0, 0), 1);
        int[] wrong = {-1, 1, 24, 32, LOW, HIGH};
        for (int w : wrong) {
            DUE.same("number " + w, x.known(0, w), -1);
        }
        x.echo(0, 0, 31);
        int[] noKinds = {-1, 2, LOW, HIGH};
        for (int w : noKinds) {
            DUE.same("what " + w, x.known(w, 0), -1);
        }
        DUE.same("known echo", x.known(1, 0), 1);
        for (int w : wrong) {
            DUE.same("echo " + w, x.known(1, w), -1);
        }
    }

    private static void feed() {
        DUE.sentence("Twenty bytes come behind the TAPE, four of each number, the highest first: how many it has.");
        HullEars x = new HullEars();
        // Boat, bell, direction by threes: (1, 2, 3), (0, 23, 79), (1, 0, 5), and so on over the numbers' borders.
        DUE.same("twenty", x.feed(0x01020300, 0x174f0100, 0x05000607, 0x01080900, 0x0a0b010c), 20);
        DUE.same("came", x.row(), 6);
        DUE.same("torn", x.torn(), 1);
        x.end(0);
        DUE.same("behind", x.feed(0x65617220, 0x20202020, 0x20202020, 0x20202020, 0x20202032), 20);
        DUE.same("behind", x.feed(0x33202020, 0x20202020, 0x20202020, 0x20202020, 0x20202020), 40);
        DUE.same("law", x.law(), 1);
        DUE.same("a number over both", x.tells(0, 0, 0, 2), 23);
        // The highest byte of a number below 0.
        x.feed(0xff000000, 0, 0, 0, 0);
        x.end(3);
        DUE.same("255 is no boat", x.row(), 0);
        DUE.same("torn", x.torn(), 1);
        x.feed(0x000017ff, 0, 0, 0, 0);
        x.end(3);
        DUE.same("the low bytes go last", x.row(), 1);
    }

    private static void end() {
        DUE.sentence("The TAPE has its first n bytes alone: n. NONE, if it has not so many, or n is below 0.");
        HullEars x = new HullEars();
        DUE.same("0 of none", x.end(0), 0);
        DUE.same("1 of none", x.end(1), -1);
        x.feed(0x65617220, 0x37383900, 0, 0, 0);
        DUE.same("all", x.end(20), 20);
        DUE.same("one more", x.end(21), -1);
        DUE.same("below 0", x.end(-1), -1);
        DUE.same("far below", x.end(LOW), -1);
        DUE.same("far above", x.end(HIGH), -1);
        DUE.same("20", x.count(8), 20);
        DUE.same("6", x.end(6), 6);
        DUE.same("not so many now", x.end(7), -1);
        DUE.same("behind what is left", x.feed(0x30202020, 0x20202020, 0x20202020, 0x20202020, 0x20202020), 26);
        DUE.same("law", x.law(), 1);
        DUE.same("780", x.tells(0, 0, 0, 2), 780);
        DUE.same("empty then", x.end(1), -1);
    }

    private static void row() {
        DUE.sentence("A ROW of HEARD ones, the TAPE is empty then: how many came. -6 the TAPE is empty.");
        HullEars x = new HullEars();
        DUE.same("empty", x.row(), -6);
        x.feed(0, 0, 0, 0, 0);
        DUE.same("six and a torn one", x.row(), 6);
        DUE.same("empty then", x.count(8), 0);
        DUE.same("empty", x.row(), -6);
        x.feed(0, 0, 0, 0, 0);
        x.end(0);
        DUE.same("cut to nothing", x.row(), -6);
        x.feed(-1, -1, -1, -1, -1);
        DUE.same("none came, but it is not refused", x.row(), 0);
        DUE.same("it is not refused", x.status(), 0);
        DUE.same("empty then, too", x.count(8), 0);
        DUE.same("six", x.count(0), 6);
        DUE.same("refused by -6", x.count(13), 3);
    }

    private static void torn() {
        DUE.sentence("How many were TORN in the latest row() that was not REFUSED (0 ahead of any).");
        HullEars x = new HullEars();
        DUE.same("ahead of any", x.torn(), 0);
        x.row();
        DUE.same("refused", x.torn(), 0);
        x.feed(-1, -1, -1, -1, -1);
        x.row();
        DUE.same("seven", x.torn(), 7);
        x.row();
        DUE.same("refused: as before", x.torn(), 7);
        x.feed(0, 0, 0, 0, 0);
        x.end(3);
        x.row();
        DUE.same("none in the latest", x.torn(), 0);
        DUE.same("law() has none", x.law(), -6);
        DUE.same("none in the latest", x.torn(), 0);
    }

    private static void lawAndFault() {
        DUE.sentence("The TAPE, which is empty then, becomes the LAW: how many CLAUSES.");
        HullEars x = new HullEars();
        DUE.same("two", Due.law(x, "ear 1;ear 2"), 2);
        DUE.same("empty then", x.count(8), 0);
        DUE.same("one", Due.law(x, "ear 3"), 1);
        DUE.same("the other is gone", x.count(5), 1);
        DUE.sentence("FAULT of the latest law(): its place; NONE without.");
        HullEars y = new HullEars();
        DUE.same("ahead of any", y.fault(), -1);
        Due.law(y, "far 1");
        DUE.same("at first", y.fault(), 0);
        Due.law(y, "ear 1 far");
        DUE.same("behind", y.fault(), 6);
        Due.law(y, "ear 1");
        DUE.same("without", y.fault(), -1);
        y.law();
        DUE.same("of an empty one", y.fault(), 0);
        y.row();
        DUE.same("row() has none", y.fault(), 0);
    }

    private static void run() {
        DUE.sentence("Of the i-th RUN that FITS: east (what 0), north (1) at BELL 0, east (2), north (3) each BELL. NOTHING.");
        HullEars x = new HullEars();
        int[] wrong = {-1, 50176, LOW, HIGH};
        int[] noParts = {-1, 4, LOW, HIGH};
        for (int w : wrong) {
            DUE.same("run " + w, x.run(w, 0), -1000);
        }
        for (int w : noParts) {
            DUE.same("what " + w, x.run(0, w), -1000);
        }
        x.terms(1, 0);
        x.boat(0, 31, 0, 5);
        x.echo(0, 0, 0);
        x.leg(0, 0, 3, -3);
        x.echo(0, 23, 0);
        int[] due = {31, 0, 3, -3};
        DUE.same("one", x.runs(), 1);
        for (int what = 0; what < 4; what++) {
            DUE.same("the only one", x.run(0, what), due[what]);
            DUE.same("no second", x.run(1, what), -1000);
        }
        x.echo(0, 5, 99);
        DUE.same("none", x.runs(), 0);
        DUE.same("none", x.run(0, 0), -1000);
    }

    /** A sea in which no run fits. */
    private static HullEars hopeless() {
        HullEars x = new HullEars();
        x.terms(1, 0);
        x.echo(0, 0, 0);
        x.echo(0, 0, 99);
        x.offer(0, 0);
        x.offer(1, 1);
        x.guess(0, 0, 0, 0);
        return x;
    }

    private static void span() {
        DUE.sentence("NOTHING (none FITS, too).");
        HullEars x = hopeless();
        for (int what = 0; what < 4; what++) {
            DUE.same("none fits", x.span(0, what), -1000);
        }
        HullEars y = new HullEars();
        int[] wrong = {-1, 4, LOW, HIGH};
        for (int w : wrong) {
            DUE.same("what " + w, y.span(0, w), -1000);
        }
        int[] due = {-69, 100, -69, 100};
        for (int what = 0; what < 4; what++) {
            DUE.same("at last", y.span(23, what), due[what]);
        }
    }

    private static void misses() {
        DUE.sentence("MISSES of a RUN. NONE (no such RUN).");
        HullEars x = new HullEars();
        DUE.same("nothing is new", x.misses(31, 31, 3, -3), 0);
        for (int k = 0; k < 24; k++) {
            x.heard(1, 23, 30);
        }
        for (int k = 0; k < 12; k++) {
            x.echo(0, 0, 99);
        }
        DUE.same("all of them", x.misses(0, 0, 0, 0), 36);
        DUE.same("all echoes", x.misses(5, 0, 0, 0), 12);
        DUE.same("no such run", x.misses(-1, 0, 0, 0), -1);
        DUE.same("no such run", x.misses(0, 32, 0, 0), -1);
        DUE.same("no such run", x.misses(0, 0, 4, 0), -1);
        DUE.same("no such run", x.misses(0, 0, 0, -4), -1);
    }

    private static void alone() {
        DUE.sentence("if all RUNS that FIT are at one then. NOTHING.");
        HullEars x = hopeless();
        DUE.same("none fits", x.alone(0, 0), -1000);
        DUE.same("none fits", x.alone(0, 1), -1000);
        HullEars y = new HullEars();
        DUE.same("all over the sea", y.alone(0, 0), -1000);
        y.terms(1, 0);
        y.boat(0, 0, 31, 5);
        y.echo(0, 0, 0);
        DUE.same("at one", y.alone(0, 0), 0);
        DUE.same("at one", y.alone(0, 1), 31);
        DUE.same("no longer", y.alone(1, 0), -1000);
        int[] wrong = {-1, 2, LOW, HIGH};
        for (int w : wrong) {
            DUE.same("what " + w, y.alone(0, w), -1000);
        }
    }

    private static void within() {
        DUE.sentence("in a RANGE of wide (0 .. 99) at most from a PLACE (-99 .. 199 each) at a BELL. NONE.");
        HullEars x = new HullEars();
        int[] noPlaces = {-100, 200, LOW, HIGH};
        for (int w : noPlaces) {
            DUE.same("east " + w, x.within(0, w, 0, 99), -1);
            DUE.same("north " + w, x.within(0, 0, w, 99), -1);
        }
        int[] notWide = {-1, 100, LOW, HIGH};
        for (int w : notWide) {
            DUE.same("wide " + w, x.within(0, 0, 0, w), -1);
        }
        DUE.same("wide 0", x.within(0, 31, 31, 0), 49);
        DUE.same("too far off", x.within(0, 31, 32, 0), 0);
        DUE.same("from the corner", x.within(0, -99, -99, 99), 49);
        DUE.same("from the corner", x.within(0, -99, -99, 98), 0);
        DUE.same("from the other", x.within(23, 199, 199, 99), 1);
        DUE.same("from the other", x.within(23, 199, 199, 98), 0);
        DUE.same("none fits", hopeless().within(0, 0, 0, 99), 0);
        int[] bells = {0, 1, 7, 23};
        int[][] squares = {{0, 0, 0}, {16, 5, 3}, {-20, 40, 9}, {40, -20, 9}, {60, 60, 30}, {-50, -40, 25}, {31, 0, 99}};
        for (int bell : bells) {
            for (int[] q : squares) {
                int due = oneWay(bell, q[0], q[2]) * oneWay(bell, q[1], q[2]);
                DUE.same("all runs at " + bell, x.within(bell, q[0], q[1], q[2]), due);
            }
        }
    }

    /** How many starts and paces, in one of both ways, bring a run so near to a place. */
    private static int oneWay(int bell, int place, int wide) {
        int found = 0;
        for (int start = 0; start < 32; start++) {
            for (int pace = -3; pace <= 3; pace++) {
                if (Math.abs(start + pace * bell - place) <= wide) found++;
            }
        }
        return found;
    }

    private static void least() {
        DUE.sentence("The least MISSES of all RUNS (what 0), how many have these (1), the first of them");
        HullEars x = new HullEars();
        int[] wrong = {-1, 3, LOW, HIGH};
        for (int w : wrong) {
            DUE.same("what " + w, x.least(w), -1);
        }
        DUE.same("nothing new", x.least(0), 0);
        DUE.same("nothing new", x.least(1), 50176);
        DUE.same("nothing new", x.least(2), 0);
        HullEars last = new HullEars();
        last.terms(1, 0);
        last.boat(0, 31, 31, 5);
        last.echo(0, 0, 0);
        last.leg(0, 0, 3, 3);
        last.echo(0, 23, 0);
        DUE.same("the last of all", last.least(2), 50175);
        DUE.same("alone", last.least(1), 1);
        HullEars none = hopeless();
        DUE.same("none fits all", none.least(0), 1);
        DUE.same("those at (0, 0)", none.least(1), 49);
        DUE.same("the first of those", none.least(2), 0);
    }

    private static void better() {
        DUE.sentence("How many RUNS are BETTER than a GUESS; NONE.");
        HullEars x = hopeless();
        x.guess(1, 0, 0, 0);
        DUE.same("none", x.better(0), 0);
        DUE.same("49", x.better(1), 49);
        int[] wrong = {-1, 2, LOW, HIGH};
        for (int w : wrong) {
            DUE.same("guess " + w, x.better(w), -1);
        }
        DUE.same("without any", new HullEars().better(0), -1);
    }

    private static void parts() {
        DUE.sentence("NONE (BELL and AHEAD above 23, too).");
        HullEars x = new HullEars();
        DUE.same("without any", x.parts(0, 1, 0), -1);
        DUE.same("without any", x.heardBy(0, 1, 0), -1);
        x.offer(0, 0);
        for (int ahead = 1; ahead <= 9; ahead++) {
            DUE.yes("at 23", x.parts(23 - ahead, ahead, 0) > 0);
            DUE.same("above 23", x.parts(24 - ahead, ahead, 0), -1);
            DUE.same("at 23", x.heardBy(23 - ahead, ahead, 0), 50176);
            DUE.same("above 23", x.heardBy(24 - ahead, ahead, 0), -1);
            DUE.same("at 23", x.silent(23 - ahead, ahead, 60000), 0);
            DUE.same("above 23", x.silent(24 - ahead, ahead, 60000), -1);
        }
        DUE.same("wrapped round", x.parts(HIGH, 1, 0), -1);
        DUE.same("wrapped round", x.parts(1, HIGH, 0), -1);
        DUE.same("wrapped round", x.parts(HIGH, HIGH, 0), -1);
        DUE.same("wrapped round", x.parts(LOW, LOW, 0), -1);
        int[] wrong = {-1, 1, LOW, HIGH};
        for (int w : wrong) {
            DUE.same("offer " + w, x.parts(0, 1, w), -1);
            DUE.same("offer " + w, x.heardBy(0, 1, w), -1);
        }
        HullEars none = hopeless();
        DUE.same("none fits", none.parts(0, 1, 1), 0);
        DUE.same("none fits", none.heardBy(0, 1, 1), 0);
    }

    private static void turnAndSilent() {
        DUE.sentence("The best OFFER; NONE.");
        HullEars x = new HullEars();
        DUE.same("without any", x.turn(0, 1), -1);
        DUE.same("none fits: all alike", hopeless().turn(0, 1), 0);
        DUE.sentence("The best OFFER of those that are HEARD BY at most so many (0 .. 60,000); NONE.");
        DUE.same("without any", x.silent(0, 1, 60000), -1);
        x.offer(2, 2);
        int[] wrong = {-1, 60001, LOW, HIGH};
        for (int w : wrong) {
            DUE.same("most " + w, x.silent(0, 1, w), -1);
        }
        DUE.same("all", x.silent(0, 1, 60000), 0);
        DUE.same("just all", x.silent(0, 1, 50176), 0);
        DUE.same("one less", x.silent(0, 1, 50175), -1);
        DUE.same("none", x.silent(0, 1, 0), -1);
        Due.law(x, "ear 1");
        DUE.same("nobody hears", x.silent(0, 1, 0), 0);
        DUE.same("none fits", hopeless().silent(0, 1, 0), 0);
    }

    private static void traces() {
        DUE.sentence("How many TRACES the FEWEST PARTINGS of a BOAT have; NONE.");
        HullEars x = new HullEars();
        int[] wrong = {-1, 2, LOW, HIGH};
        for (int w : wrong) {
            DUE.same("boat " + w, x.traces(w), -1);
        }
        DUE.same("nothing heard", x.traces(0), 0);
        DUE.sentence("What is next of something HEARD in the FIRST of the FEWEST; NONE (without one, too).");
        DUE.same("nothing heard", x.next(0), -1);
        x.heard(0, 0, 0);
        x.heard(0, 1, 0);
        DUE.same("one", x.next(0), 1);
        DUE.same("without one", x.next(1), -1);
        int[] noneHeard = {-1, 2, 24, LOW, HIGH};
        for (int w : noneHeard) {
            DUE.same("heard " + w, x.next(w), -1);
        }
        HullEars full = new HullEars();
        for (int k = 0; k < 24; k++) {
            full.heard(0, 23 - k, 0);
        }
        DUE.same("the last told", full.next(23), 22);
        DUE.same("no more", full.next(24), -1);
        DUE.same("no more", full.next(25), -1);
        DUE.same("no more", full.sure(24, 23), -1);
        DUE.same("no more", full.sure(23, 24), -1);
    }

    private static void sure() {
        DUE.sentence("NONE (no such ones; the same one).");
        HullEars x = new HullEars();
        DUE.same("nothing heard", x.sure(0, 1), -1);
        DUE.same("nothing heard", x.sure(0, 0), -1);
        x.heard(0, 0, 0);
        x.heard(0, 1, 0);
        x.heard(1, 1, 0);
        int[] wrong = {-1, 3, 24, LOW, HIGH};
        for (int w : wrong) {
            DUE.same("heard " + w, x.sure(w, 0), -1);
            DUE.same("next " + w, x.sure(0, w), -1);
        }
        for (int k = 0; k < 3; k++) {
            DUE.same("the same one", x.sure(k, k), -1);
        }
        DUE.sentence("Whether one is next of another one in all FEWEST PARTINGS: 2, in some: 1, in none: 0.");
        DUE.same("in all", x.sure(0, 1), 2);
        DUE.same("in none", x.sure(1, 0), 0);
        DUE.same("another boat's", x.sure(0, 2), 0);
        DUE.same("another boat's", x.sure(2, 1), 0);
        x.heard(0, 1, 0);
        DUE.same("in some", x.sure(0, 1), 1);
        DUE.same("in some", x.sure(0, 3), 1);
    }

    private static void watch() {
        DUE.sentence("In a WATCH 0 .. 5 (four BELLS each) how much was HEARD (what 0), NEW of that (1), how many ECHOES (2),"
            + " NEW of these (3). NONE.");
        HullEars x = new HullEars();
        for (int bell = 0; bell < 24; bell++) {
            x.heard(0, bell, 10);
            if (bell % 2 == 0) x.echo(0, bell, 20);
        }
        x.shoal(0, 20, 0, 5, 10);
        // Known are bells 5 .. 10.
        int[] newHeard = {4, 1, 1, 4, 4, 4};
        int[] newEchoes = {2, 1, 0, 2, 2, 2};
        for (int watch = 0; watch < 6; watch++) {
            DUE.same("heard", x.watch(watch, 0), 4);
            DUE.same("new", x.watch(watch, 1), newHeard[watch]);
            DUE.same("echoes", x.watch(watch, 2), 2);
            DUE.same("new echoes", x.watch(watch, 3), newEchoes[watch]);
        }
        int[] wrong = {-1, 6, LOW, HIGH};
        int[] noParts = {-1, 4, LOW, HIGH};
        for (int w : wrong) {
            DUE.same("watch " + w, x.watch(w, 0), -1);
        }
        for (int w : noParts) {
            DUE.same("what " + w, x.watch(0, w), -1);
        }
        DUE.same("nothing heard", new HullEars().watch(5, 0), 0);
    }

    private static void cross() {
        DUE.sentence("In how many PLACES a pair CROSSES. NONE (no such pair).");
        HullEars x = new HullEars();
        x.boat(1, 31, 0, 5);
        DUE.same("nothing heard", x.cross(0, 0, 0), -1);
        x.heard(0, 0, 60);
        DUE.same("one alone", x.cross(0, 0, 0), -1);
        x.heard(1, 0, 40);
        DUE.same("a pair that crosses nowhere", x.cross(0, 0, 0), 0);
        int[] wrong = {-1, 1, 2, LOW, HIGH};
        for (int w : wrong) {
            DUE.same("i " + w, x.cross(0, w, 0), -1);
            DUE.same("k " + w, x.cross(0, 0, w), -1);
            DUE.same("ghost i " + w, x.ghost(0, w, 0), -1);
            DUE.same("ghost k " + w, x.ghost(0, 0, w), -1);
        }
        DUE.sentence("How many PAIRINGS there are at a BELL; NONE.");
        DUE.same("none", x.pairings(0), 0);
        DUE.same("none at all", x.pairings(1), 0);
        DUE.sentence("Whether a pair is a GHOST: 1, 0. NONE.");
        DUE.same("a ghost", x.ghost(0, 0, 0), 1);
        DUE.same("no pair", x.ghost(1, 0, 0), -1);
        // Of a known one there is no pair.
        x.wreck(31, 31);
        x.heard(0, 3, 20);
        x.heard(1, 3, 5);
        DUE.same("a known one", x.cross(3, 0, 0), -1);
        DUE.same("a known one", x.ghost(3, 0, 0), -1);
    }

    private static void screw() {
        DUE.sentence("Of the i-th SCREW TURNS (what 0), BLADES (1). NONE.");
        HullEars x = new HullEars();
        DUE.same("without a beat", x.screw(0, 0), -1);
        x.beat(2100);
        DUE.same("turns", x.screw(0, 0), 300);
        DUE.same("blades", x.screw(0, 1), 7);
        int[] wrong = {-1, 1, LOW, HIGH};
        int[] noParts = {-1, 2, LOW, HIGH};
        for (int w : wrong) {
            DUE.same("screw " + w, x.screw(w, 0), -1);
        }
        for (int w : noParts) {
            DUE.same("what " + w, x.screw(0, w), -1);
        }
    }

    private static void tells() {
        DUE.sentence("By the LAW of a BOAT at a BELL in a RANGE (0 .. 200) NOISE (what 0), LOSS (1), EAR (2)."
            + " NOTHING (-10,000,000) without.");
        HullEars x = new HullEars();
        Due.law(x, "noise range;loss 0-range;ear 0-1000*1000*10");
        DUE.same("range 0", x.tells(0, 0, 0, 0), 0);
        DUE.same("range 200", x.tells(0, 0, 200, 0), 200);
        DUE.same("range 200", x.tells(0, 0, 200, 1), -200);
        DUE.same("the law may tell as much", x.tells(0, 0, 200, 2), -10000000);
        int[] noRanges = {-1, 201, LOW, HIGH};
        int[] noParts = {-1, 3, LOW, HIGH};
        for (int w : noRanges) {
            DUE.same("range " + w, x.tells(0, 0, w, 0), -10000000);
        }
        for (int w : noParts) {
            DUE.same("what " + w, x.tells(0, 0, 0, w), -10000000);
        }
        DUE.sentence("How many of the RUNS that FIT hear a BOAT at a BELL; NONE.");
        DUE.same("none fits", hopeless().hears(0, 0), 0);
        DUE.same("no boat", hopeless().hears(2, 0), -1);
    }

    private static void search() {
        DUE.sentence("BEST of so many LOOKS: the chance, upper (part 0), lower number (1)");
        HullEars x = new HullEars();
        DUE.same("without cells", x.search(6, 0), 0);
        DUE.same("without cells", x.search(6, 1), 1);
        x.cell(100, 1);
        int[] noLooks = {-1, 7, LOW, HIGH};
        int[] noParts = {-1, 2, LOW, HIGH};
        for (int w : noLooks) {
            DUE.same("looks " + w, x.search(w, 0), -1);
            DUE.same("looks " + w, x.looks(w, 0), -1);
        }
        for (int w : noParts) {
            DUE.same("part " + w, x.search(6, w), -1);
        }
        // 1 less 0.99 to the sixth has no lower terms.
        DUE.same("upper", x.search(6, 0), 58519850599L);
        DUE.same("lower", x.search(6, 1), 1000000000000L);
        DUE.sentence("How many of BEST LOOKS are at a CELL; NONE.");
        int[] noCells = {-1, 1, 6, LOW, HIGH};
        for (int w : noCells) {
            DUE.same("cell " + w, x.looks(6, w), -1);
        }
        DUE.same("all", x.looks(6, 0), 6);
        DUE.same("none", x.looks(0, 0), 0);
        DUE.same("without cells", new HullEars().looks(0, 0), -1);
    }

    private static void images() {
        DUE.sentence("IMAGE k is kept: 0; -1.");
        HullEars x = new HullEars();
        int[] wrong = {-1, 2, LOW, HIGH};
        for (int w : wrong) {
            DUE.same("image " + w, x.image(w), -1);
        }
        DUE.sentence("BACK to IMAGE k: 0. -1; -2 it was not kept.");
        for (int w : wrong) {
            DUE.same("back " + w, x.back(w), -1);
        }
        for (int k = 0; k <= 1; k++) {
            DUE.same("not kept", x.back(k), -2);
            DUE.same("kept", x.image(k), 0);
            DUE.same("kept", x.back(k), 0);
            DUE.same("once more", x.image(k), 0);
            DUE.same("once more", x.back(k), 0);
        }
        DUE.same("refused by -1", x.count(9), 8);
        DUE.same("refused by -2", x.count(10), 2);
    }

    private static void fullCounts() {
        DUE.sentence("0 HEARD ones, 1 ECHOES, 2 WRECKS, 3 OFFERS, 4 BEATS, 5 CLAUSES, 6 CELLS, 7 NEW ones (HEARD, ECHOES),"
            + " 8 bytes of the TAPE");
        int[] most = {24, 12, 8, 8, 6, 12, 6, 36, 400, 0, 0, 0, 0, 0, 6, 8, 2};
        HullEars x = new HullEars();
        for (int what = 0; what <= 16; what++) {
            DUE.same("new: count " + what, x.count(what), 0);
        }
        x.boat(0, 31, 31, 5);
        x.boat(1, 31, 31, 5);
        for (int k = 0; k < 24; k++) {
            x.heard(k % 2, k, 20);
            if (k < 12) x.echo(k % 2, k, 99);
            if (k < 8) x.wreck(0, 0);
            if (k < 8) x.offer(0, 0);
            if (k < 6) x.beat(1);
            if (k < 6) x.cell(0, 0);
            if (k < 6) x.shoal(0, 0, 0, 0, 23);
            if (k < 8) x.guess(0, 0, 0, 0);
        }
        Due.law(x, "ear 1" + ";ear 1".repeat(11));
        for (int k = 0; k < 20; k++) {
            x.feed(0, 0, 0, 0, 0);
        }
        x.day(2);
        for (int what = 0; what <= 16; what++) {
            DUE.same("full: count " + what, x.count(what), most[what]);
        }
    }

    private static void codes() {
        DUE.sentence("as 1568 times east and 49 times north and 7 times what is east, 3 added, and north, 3 added, each BELL"
            + " (2)");
        int[][] runs = {{0, 0, -3, -3}, {0, 0, -3, 3}, {0, 0, 3, -3}, {0, 31, 0, 0}, {31, 0, 1, -2}, {31, 31, 3, 3}};
        for (int[] r : runs) {
            HullEars x = new HullEars();
            x.terms(1, 0);
            x.boat(0, r[0], r[1], 5);
            x.leg(0, 0, r[2], r[3]);
            x.echo(0, 0, 0);
            x.echo(0, 23, 0);
            DUE.same("alone", x.least(1), 1);
            DUE.same("its code", x.least(2), 1568 * r[0] + 49 * r[1] + 7 * (r[2] + 3) + r[3] + 3);
        }
    }

    private static void count() {
        DUE.sentence("9 .. 13 how many calls were REFUSED by -1, -2, -3, -5, -6 (IMAGES do not keep that)");
        HullEars x = new HullEars();
        x.image(0);
        x.leg(0, 5, 0, 0);
        x.beat(0);
        for (int k = 0; k < 2; k++) x.heard(2, 0, 0);
        for (int k = 0; k < 3; k++) x.leg(0, 5, 0, 0);
        for (int k = 0; k < 12; k++) x.guess(0, 0, 0, 0);
        for (int k = 0; k < 5; k++) x.row();
        for (int again = 0; again < 2; again++) {
            for (int k = 0; k < 5; k++) {
                DUE.same("count " + (9 + k), x.count(9 + k), k + 1);
            }
            x.back(0);
        }
        DUE.sentence("NONE for others.");
        int[] wrong = {-1, 17, 18, LOW, HIGH};
        for (int w : wrong) {
            DUE.same("count " + w, x.count(w), -1);
        }
        for (int what = 0; what <= 16; what++) {
            DUE.yes("count " + what, x.count(what) >= 0);
        }
    }

    private static void status() {
        DUE.sentence("was REFUSED by; 0 if it was not, or ahead of any");
        HullEars x = new HullEars();
        DUE.same("ahead of any", x.status(), 0);
        int[] due = {-1, -2, -3, -5, -6};
        for (int k = 0; k < 8; k++) x.offer(0, 0);
        x.leg(0, 5, 0, 0);
        for (int k = 0; k < 5; k++) {
            int got = k == 0 ? x.offer(4, 0) : k == 1 ? x.boat(2, 0, 0, 0) : k == 2 ? x.leg(0, 5, 0, 0)
                : k == 3 ? x.offer(0, 0) : x.law();
            DUE.same("refused", got, due[k]);
            DUE.same("status", x.status(), due[k]);
            DUE.same("asked again", x.status(), due[k]);
            x.day(0);
            DUE.same("it was not", x.status(), 0);
        }
        // Calls that are not of these leave it, whatever they answer.
        x.offer(4, 0);
        x.feed(0, 0, 0, 0, 0);
        x.end(99);
        x.run(-1, 0);
        x.search(9, 9);
        DUE.same("as it was", x.status(), -1);
    }
}
