/** Promises 21 to 29: the runs that fit, what they miss, guesses. */
public final class RunsTest {
    private static final Due DUE = new Due("RunsTest");

    public static void main(String[] args) {
        order();
        straightUp();
        knownIsNotAsked();
        depthMustBeReached();
        echoes();
        apart();
        apartAtTheEdges();
        spans();
        within();
        leastAndBetter();
        wrong();
        manyMisses();
        mostMissesAtLeast();
        firstOfAll();
        everyChangeCounts();
        everyQuestionIsFresh();
        DUE.finish();
    }

    private static void order() {
        HullEars x = new HullEars();
        DUE.same("P21", x.runs(), 50176);
        int[] asked = {0, 1, 6, 7, 48, 49, 1567, 1568, 50175};
        for (int i : asked) {
            DUE.same("P22 east", x.run(i, 0), i / 1568);
            DUE.same("P22 north", x.run(i, 1), i / 49 % 32);
            DUE.same("P22 east each bell", x.run(i, 2), i / 7 % 7 - 3);
            DUE.same("P22 north each bell", x.run(i, 3), i % 7 - 3);
        }
        DUE.same("P22", x.run(50176, 0), -1000);
        DUE.same("P22", x.run(-1, 0), -1000);
        DUE.same("P22", x.run(0, 4), -1000);
        DUE.same("P22", x.run(0, -1), -1000);
    }

    private static void straightUp() {
        HullEars x = new HullEars();
        x.boat(0, 4, 4, 5);
        x.terms(0, 0);
        x.terms(1, 0);
        x.heard(0, 0, 10);
        x.echo(0, 0, 3);
        x.heard(0, 1, 20);
        x.echo(0, 5, 0);
        // From (4, 7), at bell 5 at (4, 4): none does, for -3 each 5 bells is no whole number.
        DUE.same("P21 none", x.runs(), 0);
        DUE.same("P22 none", x.run(0, 0), -1000);
        DUE.same("P25 none", x.alone(0, 0), -1000);
        HullEars y = new HullEars();
        y.boat(0, 4, 4, 5);
        y.terms(0, 0);
        y.terms(1, 0);
        y.heard(0, 0, 10);
        y.echo(0, 0, 3);
        y.echo(0, 3, 0);
        // From (4, 7) to (4, 4) in three bells: (0, -1) alone.
        DUE.same("P21 one", y.runs(), 1);
        int[] due = {4, 7, 0, -1};
        for (int what = 0; what < 4; what++) {
            DUE.same("P22 one", y.run(0, what), due[what]);
        }
        DUE.same("P25", y.alone(23, 1), 7 - 23);
        DUE.same("P25", y.alone(23, 0), 4);
        DUE.same("P23 one", y.span(2, 3), 5);
        // At the own place nothing is heard.
        y.terms(0, 20);
        y.heard(0, 3, 5);
        DUE.same("P21 own place", y.runs(), 0);
        DUE.same("P24 own place", y.misses(4, 7, 0, -1), 1);
    }

    private static void knownIsNotAsked() {
        HullEars x = new HullEars();
        x.terms(0, 0);
        x.heard(0, 0, 10);
        x.heard(0, 0, 30);
        DUE.same("P21 two ways at once", x.runs(), 0);
        x.wreck(9, 0);
        DUE.same("P21 the one is a wreck", x.runs(), 3136);
        x.shoal(0, 5, 0, 0, 0);
        DUE.same("P21 the other is a shoal", x.runs(), 50176);
        DUE.same("P24", x.misses(31, 31, 0, 0), 0);
    }

    private static void depthMustBeReached() {
        HullEars x = new HullEars();
        x.terms(0, 0);
        x.terms(3, 9);
        x.boat(0, 0, 0, 0);
        x.heard(0, 0, 10);
        DUE.same("P21 depth", x.runs(), reachedUpwards(x, 9, 0) * 49);
        DUE.same("P21 nearest", x.run(0, 1), 4);
        // From the target's depth to the boat's, not the other way: layers bend all rays upwards.
        for (int depth = 0; depth < 10; depth++) {
            x.layer(depth, 100 - 5 * depth);
        }
        int up = reachedUpwards(x, 9, 0);
        int down = reachedUpwards(x, 0, 9);
        DUE.same("P21 up", x.runs(), up * 49);
        DUE.same("P21 ways differ", up != down ? 1 : 0, 1);
        x.echo(0, 0, 5);
        DUE.same("P21 echo", x.runs(), (x.reaches(9, 0, 4) + x.reaches(9, 0, 5) + x.reaches(9, 0, 6)) * 49);
    }

    /** How many places of the sea lie in direction 10 from (0, 0) in ranges in which a sound reaches. */
    private static int reachedUpwards(HullEars x, int from, int to) {
        int places = 0;
        for (int e = 0; e < 32; e++) {
            for (int n = 0; n < 32; n++) {
                if (x.bearing(e, n) == 10) places += x.reaches(from, to, Math.max(e, n));
            }
        }
        return places;
    }

    private static void echoes() {
        HullEars x = new HullEars();
        x.boat(0, 10, 10, 5);
        x.terms(1, 0);
        x.echo(0, 0, 5);
        // (5, 0), (3, 4), (4, 3) and their mirrors.
        DUE.same("P21", x.runs(), 12 * 49);
        x.terms(1, 1);
        int places = 0;
        for (int e = -6; e <= 6; e++) {
            for (int n = -6; n <= 6; n++) {
                if (e * e + n * n >= 16 && e * e + n * n <= 36) places++;
            }
        }
        DUE.same("P21", x.runs(), places * 49);
        x.terms(1, 9);
        places = 0;
        for (int e = -14; e <= 14; e++) {
            for (int n = -14; n <= 14; n++) {
                if (e * e + n * n <= 196 && 10 + e >= 0 && 10 + n >= 0) places++;
            }
        }
        DUE.same("P21 below 0 is 0", x.runs(), places * 49);
    }

    private static void apart() {
        HullEars x = new HullEars();
        x.terms(0, 0);
        x.terms(1, 0);
        // A target at rest at (0, 5); boat 1 goes north past it, at bell 5 it is at the side.
        x.echo(0, 0, 5);
        x.heard(0, 0, 10);
        x.echo(0, 20, 5);
        x.heard(0, 20, 10);
        DUE.same("P25", x.alone(7, 1), 5);
        x.boat(1, 9, 0, 5);
        x.leg(1, 0, 0, 1);
        x.heard(1, 5, 70);
        DUE.same("P21 the clock is right", x.runs(), 1);
        x.boat(1, 9, 1, 5);
        x.leg(1, 0, 0, 1);
        DUE.same("P21 one off", x.runs(), 0);
        DUE.same("P24 one off", x.misses(0, 5, 0, 0), 1);
        x.terms(2, 1);
        DUE.same("P21 within apart", x.runs(), 1);
        DUE.same("P24 within apart", x.misses(0, 5, 0, 0), 0);
        x.heard(1, 7, 70);
        DUE.same("P21 one shift for all", x.runs(), 0);
        x.terms(2, 3);
        DUE.same("P24 one shift for all", x.misses(0, 5, 0, 0), 1);
        // Boat 0 has no shift.
        x.boat(1, 9, 1, 5);
        x.boat(0, 9, 1, 5);
        x.leg(0, 0, 0, 1);
        HullEars y = new HullEars();
        y.terms(0, 0);
        y.terms(2, 3);
        y.boat(0, 0, 1, 5);
        y.leg(0, 0, 0, 1);
        y.heard(0, 5, 30);
        DUE.same("P24 boat 0", y.misses(9, 5, 0, 0), 1);
        DUE.same("P24 boat 0", y.misses(9, 6, 0, 0), 0);
    }

    private static void apartAtTheEdges() {
        HullEars x = new HullEars();
        x.terms(0, 0);
        x.terms(2, 1);
        x.boat(1, 0, 0, 5);
        x.leg(1, 0, 0, 1);
        x.heard(1, 0, 30);
        // At bell 0 the boat is at (0, 0), at 1 at (0, 1); there is no bell -1.
        DUE.same("P24", x.misses(9, 0, 0, 0), 0);
        DUE.same("P24", x.misses(9, 1, 0, 0), 0);
        DUE.same("P24 nothing fits below 0", x.misses(9, 5, 0, 0), 1);
        x.heard(1, 23, 30);
        // Shifts 0 (places 0, 23) and -1 (none, 22), 1 (1, none).
        DUE.same("P24", x.misses(9, 0, 0, 1), 0);
        DUE.same("P24", x.misses(9, 23, 0, 0), 1);
        DUE.same("P24 by shift -1", x.misses(9, 22, 0, 0), 1);
        DUE.same("P24 by shift 1", x.misses(9, 1, 0, 0), 1);
        DUE.same("P24 never", x.misses(9, 3, 0, 0), 2);
        DUE.same("P24 above 23", x.misses(9, 24, 0, 0), 2);
    }

    private static void spans() {
        HullEars x = new HullEars();
        int[] due = {-69, 100, -69, 100};
        for (int what = 0; what < 4; what++) {
            DUE.same("P23 all", x.span(23, what), due[what]);
        }
        x.boat(0, 15, 15, 5);
        x.terms(0, 0);
        x.terms(1, 0);
        x.heard(0, 0, 20);
        x.echo(0, 4, 0);
        // At bell 4 all are at (15, 15): from (15 + a, 15 + b) with a, b by fours, b not above a, a few off.
        DUE.same("P23", x.span(4, 0), 15);
        DUE.same("P23", x.span(4, 3), 15);
        DUE.same("P25", x.alone(4, 0), 15);
        DUE.same("P25", x.alone(4, 1), 15);
        int[] early = {19, 27, 19, 27};
        int[] late = {12, 14, 12, 14};
        for (int what = 0; what < 4; what++) {
            DUE.same("P23", x.span(0, what), early[what]);
            DUE.same("P23", x.span(5, what), late[what]);
        }
        DUE.same("P21", x.runs(), 3);
        DUE.same("P25 not at one", x.alone(5, 0), -1000);
        DUE.same("P23", x.span(24, 0), -1000);
        DUE.same("P23", x.span(-1, 0), -1000);
        DUE.same("P23", x.span(0, 4), -1000);
        DUE.same("P23", x.span(0, -1), -1000);
        DUE.same("P25", x.alone(24, 0), -1000);
        DUE.same("P25", x.alone(-1, 0), -1000);
        DUE.same("P25", x.alone(4, 2), -1000);
        DUE.same("P25", x.alone(4, -1), -1000);
        x.heard(0, 0, 60);
        DUE.same("P23 none fits", x.span(0, 0), -1000);
        // All at east 31, or all at north 31, but not at one place.
        HullEars y = new HullEars();
        y.terms(0, 10);
        y.boat(0, 30, 5, 5);
        y.heard(0, 0, 30);
        HullEars z = new HullEars();
        z.terms(0, 10);
        z.boat(0, 5, 30, 5);
        z.heard(0, 0, 10);
        int[] eastAlone = {31, 31, 4, 6};
        int[] northAlone = {4, 6, 31, 31};
        for (int what = 0; what < 4; what++) {
            DUE.same("P23", y.span(0, what), eastAlone[what]);
            DUE.same("P23", z.span(0, what), northAlone[what]);
        }
        for (int what = 0; what < 2; what++) {
            DUE.same("P25 east alone", y.alone(0, what), -1000);
            DUE.same("P25 north alone", z.alone(0, what), -1000);
        }
    }

    private static void within() {
        HullEars x = new HullEars();
        DUE.same("P26 one place", x.within(0, 5, 5, 0), 49);
        DUE.same("P26", x.within(0, 5, 5, 2), 25 * 49);
        DUE.same("P26 the corner", x.within(0, 31, 0, 2), 9 * 49);
        DUE.same("P26 all", x.within(0, 16, 16, 99), 50176);
        DUE.same("P26 none", x.within(0, -99, 199, 0), 0);
        DUE.same("P26 far", x.within(23, 199, 100, 99), 3 * 32 + 31 + 8);
        DUE.same("P26 outermost", x.within(23, 100, 100, 0), 1);
        DUE.same("P26 outermost", x.within(23, -69, 100, 1), 4);
        int[][] wrong = {{-1, 0, 0, 0}, {24, 0, 0, 0}, {0, -100, 0, 0}, {0, 200, 0, 0}, {0, 0, -100, 0},
            {0, 0, 200, 0}, {0, 0, 0, -1}, {0, 0, 0, 100}};
        for (int[] w : wrong) {
            DUE.same("P26 wrong", x.within(w[0], w[1], w[2], w[3]), -1);
        }
    }

    private static void leastAndBetter() {
        HullEars x = new HullEars();
        DUE.same("P27 nothing heard", x.least(0), 0);
        DUE.same("P27 nothing heard", x.least(1), 50176);
        DUE.same("P27 nothing heard", x.least(2), 0);
        x.terms(0, 0);
        x.boat(0, 16, 16, 5);
        // Straight up, straight down, straight right, all at bell 0: one of them at most.
        x.heard(0, 0, 10);
        x.heard(0, 0, 50);
        x.heard(0, 0, 30);
        x.heard(0, 0, 30);
        DUE.same("P28", x.guess(16, 20, 0, 0), 0);
        DUE.same("P28", x.guess(20, 16, 0, 0), 1);
        DUE.same("P28", x.guess(0, 0, 3, -3), 2);
        DUE.same("P28", x.guess(16, 16, 0, 0), 3);
        // Direction 30 has places right of the boat and below, to one tenth.
        int right = 0;
        for (int e = 1; e <= 15; e++) {
            for (int n = -16; n <= 15; n++) {
                if (x.bearing(e, n) == 30) right++;
            }
        }
        int up = 0;
        int down = 0;
        for (int e = -16; e <= 15; e++) {
            for (int n = -16; n <= 15; n++) {
                if (x.bearing(e, n) == 10) up++;
                if (x.bearing(e, n) == 50) down++;
            }
        }
        DUE.same("P27", x.least(0), 2);
        DUE.same("P27", x.least(1), right * 49);
        DUE.same("P27", x.least(2), 1568 * 17 + 49 * 16);
        DUE.same("P29", x.better(0), right * 49);
        DUE.same("P29", x.better(1), 0);
        DUE.same("P29", x.better(2), (right + up + down) * 49);
        DUE.same("P29", x.better(3), (right + up + down) * 49);
        DUE.same("P24", x.misses(16, 20, 0, 0), 3);
        DUE.same("P24", x.misses(0, 0, 3, -3), 4);
        DUE.same("P27", x.least(3), -1);
        DUE.same("P27", x.least(-1), -1);
        DUE.same("P29", x.better(4), -1);
        DUE.same("P29", x.better(-1), -1);
    }

    private static void wrong() {
        HullEars x = new HullEars();
        int[][] wrong = {{-1, 0, 0, 0}, {32, 0, 0, 0}, {0, -1, 0, 0}, {0, 32, 0, 0}, {0, 0, -4, 0}, {0, 0, 4, 0},
            {0, 0, 0, -4}, {0, 0, 0, 4}};
        for (int[] w : wrong) {
            DUE.same("P24 wrong", x.misses(w[0], w[1], w[2], w[3]), -1);
        }
        DUE.same("P24 no refusal", x.status() + x.count(9), 0);
        for (int i = 0; i < 8; i++) {
            DUE.same("P28", x.guess(31 - i, i, 3, -3), i);
        }
        for (int[] w : wrong) {
            DUE.same("P28 wrong", x.guess(w[0], w[1], w[2], w[3]), -1);
        }
        DUE.same("P28 no room", x.guess(0, 0, 0, 0), -5);
        DUE.same("P52", x.count(15), 8);
    }

    /** All that can be heard, all of one boat, all missed by some. */
    private static void manyMisses() {
        for (int boat = 0; boat < 2; boat++) {
            HullEars x = new HullEars();
            x.boat(boat, 16, 16, 5);
            x.terms(0, 0);
            x.terms(1, 0);
            for (int i = 0; i < 24; i++) {
                x.heard(boat, 0, 30);
            }
            for (int i = 0; i < 12; i++) {
                x.echo(boat, 0, i < 11 ? 4 : 15);
            }
            x.guess(0, 0, 1, 2);
            x.guess(31, 16, 1, 2);
            x.guess(20, 16, 1, 2);
            DUE.same("P24 all", x.misses(0, 0, 0, 0), 36);
            DUE.same("P24 all but one", x.misses(31, 16, 0, 0), 11);
            DUE.same("P24 but one", x.misses(20, 16, 0, 0), 1);
            DUE.same("P27", x.least(0), 1);
            DUE.same("P27", x.least(1), 49);
            DUE.same("P27", x.least(2), 1568 * 20 + 49 * 16);
            DUE.same("P29", x.better(2), 0);
            DUE.same("P29", x.better(1), 49);
            int some = 0;
            for (int e = -16; e <= 15; e++) {
                for (int n = -16; n <= 15; n++) {
                    int squares = e * e + n * n;
                    if (x.bearing(e, n) == 30 || squares == 16 || squares == 225) some++;
                }
            }
            DUE.same("P29", x.better(0), some * 49);
            DUE.same("P21", x.runs(), 0);
        }
    }

    /** Things that no run can fit together, so that all miss almost all of them. */
    private static void mostMissesAtLeast() {
        for (int boat = 0; boat < 2; boat++) {
            HullEars x = new HullEars();
            x.boat(boat, 16, 16, 5);
            x.terms(0, 0);
            for (int i = 0; i < 24; i++) {
                x.heard(boat, 0, 3 * i);
            }
            for (int i = 0; i < 12; i++) {
                x.echo(boat, 0, 99);
            }
            int places = 0;
            for (int e = -16; e <= 15; e++) {
                for (int n = -16; n <= 15; n++) {
                    int direction = x.bearing(e, n);
                    if (direction >= 0 && direction < 72 && direction % 3 == 0) places++;
                }
            }
            DUE.same("P27", x.least(0), 35);
            DUE.same("P27", x.least(1), places * 49);
            x.guess(16, 16, 0, 0);
            DUE.same("P29", x.better(0), places * 49);
        }
    }

    /** The first run of all, and a guess whose paces matter. */
    private static void firstOfAll() {
        HullEars x = new HullEars();
        x.terms(0, 0);
        x.terms(1, 0);
        x.echo(0, 0, 0);
        x.boat(1, 0, 0, 5);
        x.leg(1, 0, -3, -3);
        x.echo(1, 9, 0);
        DUE.same("P21", x.runs(), 1);
        DUE.same("P22", x.run(0, 3), -3);
        DUE.same("P23", x.span(9, 0), -27);
        DUE.same("P23", x.span(9, 3), -27);
        DUE.same("P25", x.alone(10, 1), -30);
        DUE.same("P26", x.within(10, -30, -30, 0), 1);
        DUE.same("P27", x.least(2), 0);
        x.offer(0, 0);
        DUE.same("P31", x.parts(2, 3, 0), 1);
        DUE.same("P33", x.heardBy(2, 3, 0), 1);
        DUE.same("P46", x.hears(0, 7), 1);
        x.guess(0, 0, -3, 3);
        x.guess(0, 0, 3, -3);
        x.guess(0, 0, -3, -3);
        x.guess(1, 0, 0, 0);
        DUE.same("P29", x.better(0), 1);
        DUE.same("P29", x.better(1), 1);
        DUE.same("P29", x.better(2), 0);
        DUE.same("P29", x.better(3), 49 + atBell9(-27, -27) - 1);
    }

    /** How many runs are at a place at bell 9. */
    private static int atBell9(int east, int north) {
        int found = 0;
        for (int u = -3; u <= 3; u++) {
            for (int v = -3; v <= 3; v++) {
                int x = east - 9 * u;
                int y = north - 9 * v;
                if (x >= 0 && x < 32 && y >= 0 && y < 32) found++;
            }
        }
        return found;
    }

    /** What was reckoned before must not be answered behind a change. */
    private static void everyChangeCounts() {
        HullEars x = new HullEars();
        x.terms(0, 0);
        x.image(0);
        x.heard(0, 2, 10);
        x.guess(31, 0, 0, 0);
        int[] was = {x.runs(), x.better(0)};
        x.leg(0, 0, 3, 0);
        int[] is = {x.runs(), x.better(0)};
        DUE.same("P3 counts", is[0] != was[0] && is[1] != was[1] ? 1 : 0, 1);
        x.boat(0, 0, 0, 5);
        DUE.same("P2 counts", x.runs(), was[0]);
        DUE.same("P2 counts", x.better(0), was[1]);
        x.terms(0, 20);
        DUE.same("P5 counts", x.runs() > was[0] && x.better(0) == 0 ? 1 : 0, 1);
        x.terms(0, 0);
        x.terms(3, 0);
        DUE.same("P5 counts", x.runs() < was[0] ? 1 : 0, 1);
        x.day(1);
        x.layer(0, 0);
        int bent = x.runs();
        x.layer(0, 200);
        DUE.same("P7 counts", x.runs() != bent ? 1 : 0, 1);
        x.day(0);
        x.terms(3, 5);
        DUE.same("P6 counts", x.runs(), was[0]);
        x.echo(0, 2, 9);
        DUE.same("P11 counts", x.runs() < was[0] ? 1 : 0, 1);
        x.wreck(0, 9);
        DUE.same("P12 counts", x.runs(), 50176);
        DUE.same("P12 counts", x.better(0), 0);
        x.back(0);
        x.heard(0, 2, 10);
        DUE.same("P51 counts", x.runs(), was[0]);
        x.back(0);
        DUE.same("P51 counts", x.runs(), 50176);
        Due.type(x, "\u0000\u0002\n");
        x.row();
        DUE.same("P17 counts", x.runs(), was[0]);
        x.shoal(0, 9, 1, 2, 2);
        DUE.same("P13 counts", x.runs(), 50176);
    }

    /** Each question must find out for itself what has changed. */
    private static void everyQuestionIsFresh() {
        for (int question = 0; question < 13; question++) {
            HullEars x = new HullEars();
            x.terms(0, 0);
            x.terms(1, 0);
            x.offer(0, 0);
            x.guess(9, 9, 0, 0);
            long[] was = answers(x, question);
            x.heard(0, 0, 10);
            x.echo(0, 0, 3);
            x.heard(1, 0, 10);
            long[] is = answers(x, question);
            DUE.same("fresh " + question, is[0] != was[0] ? 1 : 0, 1);
            x.boat(0, 9, 9, 5);
            x.boat(1, 9, 9, 5);
            DUE.same("fresh again " + question, answers(x, question)[0] != is[0] || question > 9 ? 1 : 0, 1);
        }
    }

    private static long[] answers(HullEars x, int question) {
        switch (question) {
            case 0: return new long[] {x.run(0, 0) * 99 + x.run(0, 1)};
            case 1: return new long[] {x.span(0, 1) * 99 + x.span(0, 3)};
            case 2: return new long[] {x.alone(0, 1)};
            case 3: return new long[] {x.within(0, 9, 9, 4)};
            case 4: return new long[] {x.misses(9, 12, 0, 0)};
            case 5: return new long[] {x.least(2)};
            case 6: return new long[] {x.misses(9, 12, 0, 0) * 99999 + x.least(2)};
            case 7: return new long[] {x.run(0, 1)};
            case 8: return new long[] {x.cross(0, 0, 0)};
            case 9: return new long[] {x.misses(3, 0, 0, 0)};
            case 10: return new long[] {x.parts(0, 1, 0)};
            case 11: return new long[] {x.heardBy(0, 1, 0)};
            default: return new long[] {x.silent(0, 1, 100)};
        }
    }
}
