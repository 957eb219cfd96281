/** Terms III, sentence by sentence: what fits, shifts, misses, guesses, offers, traces, crossings. */
public final class EdgesOfRunsTest {
    private static final Due DUE = new Due("EdgesOfRunsTest");

    public static void main(String[] args) {
        told();
        notTheBoats();
        atMostError();
        reachedInThatRange();
        squares();
        belowNothing();
        allDistances();
        theFarthest();
        echoesMustReach();
        boatZeroHasNoShift();
        shifts();
        oneShiftForAll();
        noBellsBeyond();
        whereTheBoatIsThen();
        inOrder();
        fewestMisses();
        fewestOfMany();
        guessesAtMost();
        fewerMisses();
        offersAtMost();
        ahead();
        ownPlace();
        theFewerTheBetter();
        heardByFromThere();
        joinedLater();
        joinedByGap();
        joinedByTurn();
        joinedOfOneBoat();
        atMostOneNext();
        fewest();
        firstOfThem();
        crossInOrder();
        crossInTheSea();
        crossAtTheEdges();
        crossInOnePlace();
        noPairing();
        moreThanSix();
        ghosts();
        DUE.finish();
    }

    /** A sea in which one run alone fits: at rest, pinned by echoes of boat 0, which lies there. */
    private static HullEars pinned(int x, int y) {
        HullEars ears = new HullEars();
        ears.terms(1, 0);
        ears.boat(0, x, y, 5);
        ears.echo(0, 0, 0);
        ears.echo(0, 23, 0);
        return ears;
    }

    private static void told() {
        DUE.sentence("RUNS are told by a PLACE of the SEA at BELL 0 and PLACES east, north -3 .. 3 each BELL.");
        HullEars x = new HullEars();
        DUE.same("all", x.runs(), 32 * 32 * 7 * 7);
        int[] first = {0, 0, -3, -3};
        int[] last = {31, 31, 3, 3};
        for (int what = 0; what < 4; what++) {
            DUE.same("the first", x.run(0, what), first[what]);
            DUE.same("the last", x.run(50175, what), last[what]);
        }
        for (int i = 0; i < 50176; i += 523) {
            int[] due = {i / 1568, i / 49 % 32, i / 7 % 7 - 3, i % 7 - 3};
            for (int what = 0; what < 4; what++) {
                DUE.same("run " + i, x.run(i, what), due[what]);
            }
        }
        x = new HullEars();
        for (int bell = 0; bell <= 23; bell++) {
            for (int what = 0; what < 4; what++) {
                DUE.same("span", x.span(bell, what), what % 2 == 0 ? -3 * bell : 31 + 3 * bell);
            }
        }
    }

    private static void notTheBoats() {
        DUE.sentence("A PLACE FITS what is HEARD, if it is not the BOAT's");
        HullEars x = pinned(9, 9);
        DUE.same("one", x.runs(), 1);
        x.terms(0, 20);
        x.boat(1, 9, 9, 5);
        for (int k = 0; k < 4; k++) {
            x.heard(1, 20 * k % 24, 20 * k);
            DUE.same("the own place fits none", x.misses(9, 9, 0, 0), k + 1);
        }
        DUE.same("none", x.runs(), 0);
        // One place beside, two of four directions are at most 20 off.
        DUE.same("beside", x.misses(9, 10, 0, 0), 2 + 2);
    }

    private static void atMostError() {
        DUE.sentence("the BEARING is at most ERROR from the DIRECTION");
        int[][] ways = {{-10, 10, 0}, {0, 10, 10}, {10, 10, 20}, {10, 0, 30}, {10, -10, 40}, {0, -10, 50},
            {-10, -10, 60}, {-10, 0, 70}, {-10, 9, 79}};
        for (int[] way : ways) {
            for (int error = 0; error <= 20; error += 5) {
                HullEars x = new HullEars();
                x.terms(0, error);
                x.boat(1, 15, 15, 5);
                int missed = 0;
                for (int off = -error - 1; off <= error + 1; off += Math.max(1, error + 1)) {
                    x.heard(1, 7, Math.floorMod(way[2] + off, 80));
                    missed += Math.abs(off) > error ? 1 : 0;
                    DUE.same("direction " + way[2] + ", error " + error + ", off " + off,
                        x.misses(15 + way[0], 15 + way[1], 0, 0), missed);
                }
                HullEars y = new HullEars();
                y.terms(0, error);
                y.boat(0, 15, 15, 5);
                y.heard(0, 7, Math.floorMod(way[2] + error, 80));
                y.heard(0, 7, Math.floorMod(way[2] - error, 80));
                DUE.same("just fits", y.misses(15 + way[0], 15 + way[1], 0, 0), 0);
            }
        }
    }

    private static HullEars bentSea() {
        HullEars x = new HullEars();
        for (int depth = 0; depth <= 9; depth++) {
            x.layer(depth, 100 + 3 * depth);
        }
        x.terms(3, 8);
        x.boat(0, 0, 0, 1);
        return x;
    }

    private static void reachedInThatRange() {
        DUE.sentence("a SOUND REACHES the BOAT's DEPTH from TARGET's in that RANGE");
        HullEars x = bentSea();
        x.heard(0, 4, 20);
        boolean ways = false;
        for (int range = 1; range <= 31; range++) {
            DUE.same("range " + range, x.misses(range, range, 0, 0), 1 - x.reaches(8, 1, range));
            ways |= x.reaches(8, 1, range) != x.reaches(1, 8, range);
        }
        DUE.yes("it matters which way", ways);
        x.terms(3, 1);
        DUE.same("the same depth", x.misses(1, 1, 0, 0), 1 - x.reaches(1, 1, 1));
    }

    private static void squares() {
        DUE.sentence("if the squares of the way, together, are not below the square of DISTANCE less OFF (of 0, if that is"
            + " below), not above that of DISTANCE and OFF");
        int[][] ways = {{3, 4}, {1, 1}, {0, 5}, {7, 0}, {2, 3}, {5, 12}, {31, 31}, {31, 0}};
        for (int[] way : ways) {
            int squares = way[0] * way[0] + way[1] * way[1];
            for (int off = 0; off <= 9; off += 3) {
                HullEars x = new HullEars();
                x.terms(1, off);
                int missed = 0;
                int middle = (int) Math.sqrt(squares);
                for (int k = 0; k < 12; k++) {
                    int distance = Math.max(0, middle + (k < 6 ? k - 3 - off : k - 8 + off));
                    x.echo(0, k, distance);
                    int low = Math.max(0, distance - off);
                    int high = distance + off;
                    missed += squares >= low * low && squares <= high * high ? 0 : 1;
                }
                DUE.same("squares " + squares + ", off " + off, x.misses(way[0], way[1], 0, 0), missed);
            }
        }
        HullEars x = new HullEars();
        x.terms(1, 0);
        x.echo(0, 0, 5);
        DUE.same("just so", x.misses(3, 4, 0, 0), 0);
        DUE.same("one above", x.misses(1, 5, 0, 0), 1);
        DUE.same("one below", x.misses(4, 2, 0, 0), 1);
    }

    private static void belowNothing() {
        DUE.sentence("(of 0, if that is below)");
        HullEars x = new HullEars();
        x.terms(1, 9);
        x.echo(0, 0, 2);
        DUE.same("the own place", x.misses(0, 0, 0, 0), 0);
        DUE.same("one off it", x.misses(0, 1, 0, 0), 0);
        DUE.same("11 away", x.misses(11, 0, 0, 0), 0);
        DUE.same("a little more", x.misses(11, 1, 0, 0), 1);
        x.echo(0, 0, 9);
        DUE.same("9 less 9", x.misses(0, 0, 0, 0), 0);
        x.echo(0, 0, 10);
        DUE.same("10 less 9", x.misses(0, 0, 0, 0), 1);
        DUE.same("10 less 9", x.misses(1, 0, 0, 0), 0);
    }

    private static void allDistances() {
        DUE.sentence("are not below the square of DISTANCE less OFF");
        for (int distance = 0; distance <= 99; distance++) {
            int bell = Math.min(23, distance / 3);
            int rest = distance - 3 * bell;
            HullEars x = new HullEars();
            x.terms(1, 0);
            x.boat(0, 0, 16, 5);
            x.leg(0, 0, -3, 0);
            x.echo(0, bell, distance);
            HullEars y = new HullEars();
            y.terms(1, 0);
            y.boat(0, 16, 0, 5);
            y.leg(0, 0, 0, -3);
            y.echo(0, bell, distance);
            for (int off = 0; off <= 9; off += 3) {
                x.terms(1, off);
                y.terms(1, off);
                for (int step = Math.max(-off - 1, -rest); step <= off + 1 && rest + step <= 31; step++) {
                    for (int aside = 0; aside <= 1; aside++) {
                        int squares = (distance + step) * (distance + step) + aside;
                        int low = Math.max(0, distance - off);
                        int high = distance + off;
                        int due = squares >= low * low && squares <= high * high ? 0 : 1;
                        DUE.same("east " + distance, x.misses(rest + step, 16 + aside, 0, 0), due);
                        DUE.same("north " + distance, y.misses(16 + aside, rest + step, 0, 0), due);
                    }
                }
            }
        }
    }

    private static void theFarthest() {
        DUE.sentence("not above that of DISTANCE and OFF");
        HullEars x = new HullEars();
        x.leg(0, 0, -3, 0);
        // At bell 23 boat 0 is 100 west of (31, 0).
        int[][] due = {{99, 0, 1}, {99, 1, 0}, {91, 9, 0}, {90, 9, 1}, {99, 9, 0}};
        x.image(0);
        for (int[] d : due) {
            x.terms(1, d[1]);
            x.echo(0, 23, d[0]);
            DUE.same(d[0] + " and " + d[1], x.misses(31, 0, 0, 0), d[2]);
            x.back(0);
        }
        x.terms(1, 9);
        x.echo(0, 23, 99);
        // 108 is the farthest of all: from -69 to 39.
        DUE.same("108 away", x.misses(16, 0, 1, 0), 0);
        DUE.same("109 away", x.misses(17, 0, 1, 0), 1);
        DUE.same("90 away", x.misses(21, 0, 0, 0), 0);
        DUE.same("89 away", x.misses(20, 0, 0, 0), 1);
    }

    private static void echoesMustReach() {
        DUE.sentence("and a SOUND REACHES likewise");
        HullEars x = bentSea();
        x.terms(1, 0);
        for (int range = 0; range <= 11; range++) {
            x.echo(0, range, range);
            int missed = x.misses(0, range, 0, 0);
            // Of all told so far it can fit the last one alone.
            DUE.same("range " + range, missed, range + 1 - x.reaches(8, 1, range));
        }
    }

    private static void boatZeroHasNoShift() {
        DUE.sentence("of BOAT 0 at their BELLS");
        HullEars x = new HullEars();
        x.terms(0, 0);
        x.terms(2, 3);
        x.leg(0, 0, 0, 1);
        for (int bell = 0; bell <= 23; bell++) {
            x.heard(0, bell, 30);
        }
        // With the boat all the way, and one ahead or behind.
        DUE.same("alongside", x.misses(5, 0, 0, 1), 0);
        DUE.same("one ahead", x.misses(5, 1, 0, 1), 24);
        DUE.same("at rest", x.misses(5, 11, 0, 0), 23);
    }

    /** Boat 1 goes north from (0, 0); what it hears at its side in so short a range is just as far north. */
    private static HullEars northwards(int apart) {
        HullEars x = new HullEars();
        x.terms(0, 0);
        x.terms(2, apart);
        x.leg(1, 0, 0, 1);
        return x;
    }

    private static void shifts() {
        DUE.sentence("of BOAT 1 at its BELLS and one SHIFT -APART .. APART for all of them together");
        for (int apart = 0; apart <= 3; apart++) {
            HullEars x = northwards(apart);
            x.heard(1, 10, 30);
            for (int north = 0; north <= 20; north++) {
                DUE.same("apart " + apart + ", north " + north, x.misses(5, north, 0, 0),
                    Math.abs(north - 10) <= apart ? 0 : 1);
            }
            x.echo(0, 23, 30);
            x.wreck(0, 31);
            DUE.yes("runs too", x.runs() >= 0);
        }
    }

    private static void oneShiftForAll() {
        DUE.sentence("one SHIFT -APART .. APART for all of them together");
        HullEars x = northwards(3);
        x.heard(1, 9, 30);
        x.heard(1, 11, 30);
        x.heard(1, 11, 30);
        // 10 would be by 1 for the first, by -1 for the others.
        DUE.same("in the middle", x.misses(5, 10, 0, 0), 1);
        DUE.same("with the others", x.misses(5, 11, 0, 0), 1);
        DUE.same("with the first or the others", x.misses(5, 9, 0, 0), 1);
        DUE.same("the first alone is near", x.misses(5, 7, 0, 0), 2);
        DUE.same("beyond", x.misses(5, 15, 0, 0), 3);
        DUE.same("all along", x.misses(5, 3, 0, 1), 3);
        DUE.same("with the boat", x.misses(5, 0, 0, 1), 0);
    }

    private static void noBellsBeyond() {
        DUE.sentence("(none at BELLS below 0, above 23)");
        for (int apart = 0; apart <= 3; apart++) {
            HullEars x = northwards(apart);
            x.heard(1, 23, 30);
            for (int north = 19; north <= 27; north++) {
                DUE.same("at last, north " + north, x.misses(5, north, 0, 0), north <= 23 && north >= 23 - apart ? 0 : 1);
            }
            HullEars y = new HullEars();
            y.terms(0, 0);
            y.terms(2, apart);
            y.boat(1, 0, 4, 5);
            y.leg(1, 0, 0, 1);
            y.heard(1, 0, 30);
            for (int north = 0; north <= 8; north++) {
                DUE.same("at first, north " + north, y.misses(5, north, 0, 0), north >= 4 && north <= 4 + apart ? 0 : 1);
            }
        }
        HullEars x = northwards(1);
        x.heard(1, 0, 30);
        x.heard(1, 12, 30);
        // By -1 the second is at 11; the first has no bell then.
        DUE.same("one is missed", x.misses(5, 11, 0, 0), 1);
        DUE.same("none fits", x.misses(5, 10, 0, 0), 2);
    }

    private static void whereTheBoatIsThen() {
        DUE.sentence("by where BOAT 1 is then");
        HullEars x = new HullEars();
        x.terms(0, 0);
        x.terms(1, 0);
        x.terms(2, 1);
        x.leg(1, 5, 0, 3);
        x.leg(1, 6, 0, 0);
        // At (0, 0) up to 5, from 6 on at (0, 3).
        x.heard(1, 5, 30);
        DUE.same("one bell later", x.misses(5, 3, 0, 0), 0);
        DUE.same("at its bell", x.misses(5, 0, 0, 0), 0);
        DUE.same("never between", x.misses(5, 1, 0, 0), 1);
        // The run moves with the bell, too: 4 .. 6 bells from 9 down.
        DUE.same("the run then", x.misses(5, 9, 0, -1), 0);
        DUE.same("the run then", x.misses(5, 8, 0, -1), 1);
        DUE.same("the run then", x.misses(5, 6, 0, -1), 1);
        DUE.same("the run then", x.misses(5, 5, 0, -1), 0);
        DUE.same("the run then", x.misses(5, 4, 0, -1), 0);
        x.echo(1, 6, 4);
        // With the echo: by 0 at bell 6 from (0, 3), by -1 at bell 5 from (0, 0).
        DUE.same("both by one shift", x.misses(4, 0, 0, 0), 0);
        DUE.same("both by one shift", x.misses(4, 3, 0, 0), 0);
        DUE.same("one alone", x.misses(5, 3, 0, 0), 1);
    }

    private static void inOrder() {
        DUE.sentence("by PLACE east, then north, then by what is east, north each BELL");
        HullEars x = new HullEars();
        x.terms(0, 0);
        x.boat(0, 16, 16, 5);
        x.heard(0, 0, 20);
        x.heard(0, 5, 20);
        int runs = x.runs();
        DUE.same("as many as bearings tell", runs, 95);
        long ahead = -1;
        for (int i = 0; i < runs; i++) {
            long code = x.run(i, 0);
            code = code * 100 + x.run(i, 1);
            code = code * 100 + x.run(i, 2) + 3;
            code = code * 100 + x.run(i, 3) + 3;
            DUE.yes("run " + i + " behind the one ahead of it", code > ahead);
            ahead = code;
        }
        DUE.same("no more", x.run(runs, 0), -1000);
        DUE.yes("the last", x.run(runs - 1, 0) > 16);
    }

    private static void fewestMisses() {
        DUE.sentence("how much that is NEW it does not fit, with the SHIFT that has the fewest");
        HullEars x = northwards(2);
        int[] bells = {8, 9, 9, 10, 10, 10, 11, 14};
        for (int bell : bells) {
            x.heard(1, bell, 30);
        }
        // At north n those at bell n - shift: by 10 - n three of eight.
        int[] most = {0, 0, 0, 0, 0, 0, 1, 2, 3, 3, 3, 3, 3, 1, 1, 1, 1, 0};
        for (int north = 0; north < most.length; north++) {
            DUE.same("north " + north, x.misses(5, north, 0, 0), 8 - most[north]);
        }
        x.heard(0, 0, 50);
        x.echo(0, 1, 99);
        DUE.same("and what boat 0 has", x.misses(5, 10, 0, 0), 5 + 2);
        x.boat(0, 5, 31, 5);
        DUE.same("and what boat 0 has", x.misses(5, 10, 0, 0), 5 + 1);
        DUE.same("no run", x.misses(5, 32, 0, 0), -1);
    }

    /** Of 36 that are new 31, 32 or 33 are missed, as the shift is; 12 of them are echoes of nothing. */
    private static void fewestOfMany() {
        DUE.sentence("with the SHIFT that has the fewest");
        int[][] bells = {{9, 10, 11}, {9, 11, 10}, {10, 9, 11}, {10, 11, 9}, {11, 9, 10}, {11, 10, 9}};
        for (int[] b : bells) {
            HullEars x = northwards(1);
            for (int k = 0; k < 24; k++) {
                x.heard(1, k < 3 ? b[0] : k < 7 ? b[1] : k < 12 ? b[2] : 22, 30);
                if (k < 12) x.echo(1, 0, 99);
            }
            x.guess(5, 10, 0, 0);
            x.guess(5, 1, 0, 0);
            DUE.same("all are new", x.count(7), 36);
            DUE.same("the best shift", x.misses(5, 10, 0, 0), 31);
            DUE.same("no shift helps", x.misses(5, 1, 0, 0), 36);
            DUE.yes("all but those with all misses", x.better(1) > x.better(0));
        }
    }

    private static void guessesAtMost() {
        DUE.sentence("GUESSES, 8 at most, are RUNS.");
        HullEars x = new HullEars();
        for (int k = 0; k < 8; k++) {
            DUE.same("its number", x.guess(31 * (k % 2), 31 * (k / 2 % 2), 3 - 6 * (k / 4), -3), k);
        }
        DUE.same("a ninth", x.guess(5, 5, 0, 0), -5);
        DUE.same("8", x.count(15), 8);
        DUE.same("the last", x.better(7), 0);
        DUE.same("no other", x.better(8), -1);
        DUE.same("no other", x.better(-1), -1);
    }

    private static void fewerMisses() {
        DUE.sentence("BETTER than a GUESS are all RUNS with fewer MISSES than it has.");
        HullEars x = new HullEars();
        x.terms(1, 0);
        x.echo(0, 0, 0);
        x.echo(0, 0, 0);
        x.echo(0, 0, 1);
        x.guess(0, 0, 3, 3);
        x.guess(0, 1, 0, 0);
        x.guess(2, 2, 0, 0);
        // 49 with one miss, 2 * 49 with two, all others with three.
        DUE.same("none is better", x.better(0), 0);
        DUE.same("as good is not better", x.better(1), 49);
        DUE.same("all that fit something", x.better(2), 3 * 49);
        DUE.same("least", x.least(0), 1);
        DUE.same("as many as that", x.least(1), 49);
    }

    private static void offersAtMost() {
        DUE.sentence("OFFERS, 8 at most: PLACES east, north -3 .. 3 each BELL.");
        HullEars x = new HullEars();
        for (int k = 0; k < 8; k++) {
            DUE.same("its number", x.offer(k - 4 == -4 ? 0 : k - 4, 3 - k % 7), k);
        }
        DUE.same("a ninth", x.offer(0, 0), -5);
        DUE.same("8", x.count(3), 8);
        DUE.yes("the last", x.parts(0, 1, 7) > 0);
        DUE.same("no other", x.parts(0, 1, 8), -1);
        DUE.same("no other", x.heardBy(0, 1, 8), -1);
        DUE.same("no other", x.parts(0, 1, -1), -1);
        DUE.same("no other", x.heardBy(0, 1, -1), -1);
    }

    private static void ahead() {
        DUE.sentence("for some BELLS AHEAD (1 .. 9)");
        HullEars x = new HullEars();
        x.offer(1, 1);
        int[] wrong = {0, 10, -1, Integer.MIN_VALUE, Integer.MAX_VALUE};
        for (int w : wrong) {
            DUE.same("parts", x.parts(3, w, 0), -1);
            DUE.same("turn", x.turn(3, w), -1);
            DUE.same("heardBy", x.heardBy(3, w, 0), -1);
            DUE.same("silent", x.silent(3, w, 60000), -1);
        }
        for (int far = 1; far <= 9; far++) {
            DUE.yes("parts", x.parts(3, far, 0) > 0);
            DUE.same("turn", x.turn(3, far), 0);
            DUE.same("heardBy", x.heardBy(3, far, 0), 50176);
            DUE.same("silent", x.silent(3, far, 60000), 0);
            // The latest that is not above 23, and one more.
            DUE.same("turn at last", x.turn(23 - far, far), 0);
            DUE.same("turn too late", x.turn(24 - far, far), -1);
        }
    }

    private static void ownPlace() {
        DUE.sentence("(that at its own PLACE for itself)");
        HullEars x = new HullEars();
        x.terms(1, 0);
        x.boat(0, 15, 15, 5);
        x.echo(0, 4, 0);
        // All that fits is at (15, 15) at bell 4, and nowhere else.
        int runs = x.runs();
        x.offer(0, 0);
        x.offer(3, 3);
        DUE.yes("some", runs > 9);
        DUE.same("all at the own place", x.parts(3, 1, 0), runs);
        DUE.same("all in one direction", x.parts(3, 1, 1), runs);
        // At bell 5 one of them is still there, all others around.
        HullEars y = new HullEars();
        y.terms(1, 0);
        y.terms(0, 0);
        y.boat(0, 15, 15, 5);
        y.heard(0, 0, 30);
        y.echo(0, 4, 0);
        y.offer(-1, 0);
        y.offer(-2, 0);
        y.offer(-3, 0);
        // From 19, 23, 27 east; at bell 5 at 14, 13, 12.
        DUE.same("three", y.runs(), 3);
        DUE.same("one is there, two beyond", y.parts(4, 1, 0), 2);
        DUE.same("one there, one on each side", y.parts(4, 1, 1), 1);
        DUE.same("one there, two behind", y.parts(4, 1, 2), 2);
    }

    private static void theFewerTheBetter() {
        DUE.sentence("the fewer there are in the greatest of these groups, the better; of alike ones the lower OFFER");
        HullEars x = new HullEars();
        x.boat(0, 31, 31, 5);
        DUE.same("no offer", x.turn(0, 1), -1);
        DUE.same("no offer", x.silent(0, 1, 60000), -1);
        x.offer(3, 3);
        x.offer(-3, -3);
        x.offer(-3, -3);
        x.offer(3, 3);
        int away = x.parts(0, 9, 0);
        int into = x.parts(0, 9, 1);
        DUE.yes("into the sea they are parted more", into < away);
        DUE.same("the better one", x.turn(0, 9), 1);
        DUE.same("silent alike", x.silent(0, 9, 50176), 1);
        HullEars y = new HullEars();
        for (int k = 0; k < 8; k++) {
            y.offer(2, -1);
        }
        DUE.same("all alike", y.turn(4, 4), 0);
    }

    private static void heardByFromThere() {
        DUE.sentence("as hear BOAT 0 (IV) at that BELL and AHEAD from there, with the OFFER's SPEED (the greater one of both,"
            + " without sign)");
        HullEars x = pinned(16, 16);
        x.leg(0, 0, 1, 0);
        x.offer(-3, 1);
        x.offer(2, -3);
        x.offer(0, 0);
        x.offer(-1, -2);
        int[] speeds = {3, 3, 0, 2};
        x.boat(0, 16, 16, 5);
        for (int k = 0; k < 4; k++) {
            Due.law(x, "noise 1 if speed=" + speeds[k] + " and bell=12 and boat=0 and depth=5;ear 1");
            DUE.same("offer " + k, x.heardBy(7, 5, k), 1);
            DUE.same("at another bell", x.heardBy(7, 4, k), 0);
            Due.law(x, "noise 1 if range=" + 5 * speeds[k] + ";ear 1");
            DUE.same("from there " + k, x.heardBy(7, 5, k), 1);
        }
        x.terms(3, 0);
        x.boat(0, 16, 16, 9);
        Due.law(x, "noise 1");
        DUE.same("no sound so deep", x.heardBy(7, 5, 2), 0);
    }

    private static void joinedLater() {
        DUE.sentence("the other one at a later BELL");
        HullEars x = new HullEars();
        x.terms(4, 23);
        x.terms(5, 40);
        x.heard(0, 5, 10);
        x.heard(0, 5, 10);
        x.heard(0, 4, 10);
        DUE.same("at one bell", x.sure(0, 1), 0);
        DUE.same("at one bell", x.sure(1, 0), 0);
        DUE.same("earlier", x.sure(0, 2), 0);
        DUE.same("later", x.sure(2, 0), 1);
        DUE.same("two", x.traces(0), 2);
    }

    private static void joinedByGap() {
        DUE.sentence("by GAP BELLS at most");
        for (int gap = 1; gap <= 23; gap++) {
            HullEars x = new HullEars();
            x.terms(5, 0);
            x.heard(1, 23 - gap, 44);
            x.heard(1, 23, 44);
            x.terms(4, gap);
            DUE.same("just joined by " + gap, x.traces(1), 1);
            if (gap > 1) {
                x.terms(4, gap - 1);
                DUE.same("one too far", x.traces(1), 2);
            }
        }
        HullEars x = new HullEars();
        x.heard(0, 0, 0);
        x.heard(0, 4, 0);
        x.heard(0, 9, 0);
        DUE.same("4 at first", x.next(0), 1);
        DUE.same("4 at first", x.next(1), -1);
    }

    private static void joinedByTurn() {
        DUE.sentence("whose DIRECTIONS are at most TURN times so many BELLS from one another");
        for (int turn = 0; turn <= 40; turn++) {
            for (int bells = 1; bells <= 3; bells++) {
                HullEars x = new HullEars();
                x.terms(5, turn);
                int most = turn * bells;
                x.heard(0, 2, 70);
                x.heard(0, 2 + bells, (70 + Math.min(most, 40)) % 80);
                DUE.same("just joined", x.traces(0), 1);
                if (most < 40) {
                    HullEars y = new HullEars();
                    y.terms(5, turn);
                    y.heard(0, 2, 70);
                    y.heard(0, 2 + bells, (70 + most + 1) % 80);
                    DUE.same("one too far", y.traces(0), 2);
                }
            }
        }
    }

    private static void joinedOfOneBoat() {
        DUE.sentence("JOINED can be two HEARD ones of one BOAT (KNOWN ones too)");
        HullEars x = new HullEars();
        x.heard(0, 5, 10);
        x.heard(1, 6, 10);
        DUE.same("each for itself", x.traces(0), 1);
        DUE.same("each for itself", x.traces(1), 1);
        DUE.same("not joined", x.next(0), -1);
        DUE.same("not joined", x.sure(0, 1), 0);
        DUE.same("not joined", x.sure(1, 0), 0);
        x.heard(0, 6, 10);
        x.wreck(0, 9);
        DUE.same("known", x.known(0, 0) + x.known(0, 2), 2);
        DUE.same("known ones too", x.next(0), 2);
        DUE.same("known ones too", x.traces(0), 1);
    }

    private static void atMostOneNext() {
        DUE.sentence("A PARTING of those of a BOAT gives each at most one that is next, and each is next of one at most");
        HullEars fork = new HullEars();
        fork.heard(0, 0, 10);
        fork.heard(0, 1, 10);
        fork.heard(0, 1, 10);
        fork.heard(0, 1, 10);
        DUE.same("one has one of three", fork.traces(0), 3);
        for (int k = 1; k <= 3; k++) {
            DUE.same("either of them", fork.sure(0, k), 1);
        }
        HullEars joint = new HullEars();
        joint.heard(0, 0, 10);
        joint.heard(0, 0, 10);
        joint.heard(0, 0, 10);
        joint.heard(0, 1, 10);
        DUE.same("one of three has it", joint.traces(0), 3);
        for (int k = 0; k < 3; k++) {
            DUE.same("either of them", joint.sure(k, 3), 1);
            DUE.same("the first has it", joint.next(k), k == 0 ? 3 : -1);
        }
        HullEars both = new HullEars();
        for (int k = 0; k < 24; k++) {
            both.heard(0, k / 8, 10);
        }
        DUE.same("eight by three", both.traces(0), 8);
        for (int k = 0; k < 24; k++) {
            DUE.same("each another one", both.next(k), k < 16 ? k + 8 : -1);
        }
    }

    private static void fewest() {
        DUE.sentence("it has as many TRACES as there are without one ahead");
        HullEars x = new HullEars();
        DUE.same("nothing heard", x.traces(0), 0);
        x.heard(0, 0, 10);
        DUE.same("one", x.traces(0), 1);
        DUE.same("the other boat", x.traces(1), 0);
        x.heard(0, 20, 10);
        DUE.same("two", x.traces(0), 2);
        HullEars y = new HullEars();
        for (int k = 0; k < 24; k++) {
            y.heard(0, 0, 10);
        }
        DUE.same("none can be joined", y.traces(0), 24);
        HullEars z = new HullEars();
        for (int k = 0; k < 24; k++) {
            z.heard(0, k, 10);
        }
        DUE.same("all can", z.traces(0), 1);
        DUE.same("the last has none", z.next(23), -1);
        DUE.same("the first has", z.next(0), 1);
    }

    private static void firstOfThem() {
        DUE.sentence("by what is next of each, in order of those, a lower number ahead of a higher one, none behind all");
        HullEars x = new HullEars();
        x.heard(0, 9, 10);
        x.heard(0, 8, 10);
        x.heard(0, 8, 10);
        x.heard(0, 7, 10);
        // Two traces: 3 and one of 1, 2, and 0 behind one of them.
        DUE.same("two", x.traces(0), 2);
        DUE.same("0 has none", x.next(0), -1);
        DUE.same("1 has 0", x.next(1), 0);
        DUE.same("2 has none left", x.next(2), -1);
        DUE.same("3 has 1", x.next(3), 1);
        DUE.same("in some", x.sure(3, 2), 1);
        DUE.same("in some", x.sure(2, 0), 1);
        DUE.same("in some: 3 before 0, both others alone", x.sure(3, 0), 0);
        HullEars y = new HullEars();
        y.heard(0, 1, 10);
        y.heard(0, 2, 10);
        y.heard(0, 3, 10);
        DUE.same("in all", y.sure(0, 1), 2);
        DUE.same("in all", y.sure(1, 2), 2);
        DUE.same("in none", y.sure(0, 2), 0);
    }

    private static HullEars corners() {
        HullEars x = new HullEars();
        x.terms(0, 0);
        x.boat(1, 31, 0, 5);
        return x;
    }

    private static void crossInOrder() {
        DUE.sentence("those by BOAT 1 (APART is not asked), each in order as told");
        HullEars x = corners();
        x.terms(2, 3);
        x.heard(0, 7, 30);
        x.heard(0, 5, 15);
        x.heard(1, 5, 40);
        x.heard(0, 5, 20);
        x.heard(1, 5, 0);
        x.heard(1, 6, 0);
        DUE.same("the first and the first", x.cross(5, 0, 0), 0);
        DUE.yes("the first and the second", x.cross(5, 0, 1) > 0);
        DUE.same("the second and the second", x.cross(5, 1, 1), 2);
        DUE.same("no third", x.cross(5, 2, 0), -1);
        DUE.same("no third", x.cross(5, 0, 2), -1);
        DUE.same("at another bell", x.cross(6, 0, 0), -1);
        DUE.same("at another bell", x.cross(7, 0, 0), -1);
        DUE.same("below the first", x.cross(5, -1, 0), -1);
        DUE.same("below the first", x.cross(5, 0, -1), -1);
    }

    private static void crossInTheSea() {
        DUE.sentence("in all PLACES of the SEA that fit both");
        HullEars x = new HullEars();
        x.terms(0, 20);
        x.boat(1, 31, 31, 5);
        x.heard(0, 0, 20);
        x.heard(1, 0, 60);
        // All of the sea but both boats' own places.
        DUE.same("all", x.cross(0, 0, 0), 32 * 32 - 2);
        HullEars y = new HullEars();
        y.terms(0, 0);
        y.boat(1, 1, 0, 5);
        y.heard(0, 0, 10);
        y.heard(1, 0, 10);
        // Nearly side by side upwards: whether they cross is told by the bearings alone.
        int places = 0;
        for (int e = 0; e < 32; e++) {
            for (int n = 0; n < 32; n++) {
                if (y.bearing(e, n) == 10 && y.bearing(e - 1, n) == 10) places++;
            }
        }
        DUE.same("counted", y.cross(0, 0, 0), places);
        HullEars z = new HullEars();
        z.terms(0, 0);
        z.boat(1, 4, 0, 5);
        z.leg(0, 0, 0, -1);
        z.leg(1, 0, 0, -1);
        z.heard(0, 1, 21);
        z.heard(1, 1, 1);
        // They would meet south of the sea.
        DUE.same("outside", z.cross(1, 0, 0), inSea(z, 0, -1, 21, 4, -1, 1));
    }

    private static int inSea(HullEars x, int east, int north, int one, int otherEast, int otherNorth, int other) {
        int places = 0;
        for (int e = 0; e < 32; e++) {
            for (int n = 0; n < 32; n++) {
                if (x.bearing(e - east, n - north) == one && x.bearing(e - otherEast, n - otherNorth) == other) places++;
            }
        }
        return places;
    }

    private static void crossAtTheEdges() {
        DUE.sentence("PLACES of the SEA that fit both");
        int[][] edges = {{0, 0, 30, 31, 0, 70}, {0, 31, 30, 31, 31, 70}, {0, 0, 10, 0, 31, 50}, {31, 0, 10, 31, 31, 50}};
        for (int[] e : edges) {
            HullEars x = new HullEars();
            x.terms(0, 0);
            x.boat(0, e[0], e[1], 5);
            x.boat(1, e[3], e[4], 5);
            x.heard(0, 0, e[2]);
            x.heard(1, 0, e[5]);
            DUE.same("along an edge", x.cross(0, 0, 0), inSea(x, e[0], e[1], e[2], e[3], e[4], e[5]));
            DUE.yes("all between both", x.cross(0, 0, 0) >= 30);
            DUE.same("they cross", x.pairings(0), 1);
        }
    }

    private static void crossInOnePlace() {
        DUE.sentence("A PAIRING takes each of BOAT 0 with another one of BOAT 1, all of which CROSS in a PLACE at least");
        HullEars x = new HullEars();
        x.terms(0, 0);
        x.boat(1, 2, 0, 5);
        x.heard(0, 0, 20);
        x.heard(1, 0, 0);
        // (1, 1) alone.
        DUE.same("one place", x.cross(0, 0, 0), 1);
        DUE.same("is enough", x.pairings(0), 1);
        DUE.same("is enough", x.ghost(0, 0, 0), 0);
        x.terms(3, 9);
        x.boat(0, 0, 0, 0);
        DUE.same("no sound comes up so steeply", x.cross(0, 0, 0), 0);
        DUE.same("no place is not", x.pairings(0), 0);
        DUE.same("no place is not", x.ghost(0, 0, 0), 1);
        // Two of boat 0 that cross one and the same of boat 1 alone.
        HullEars y = corners();
        y.heard(0, 9, 20);
        y.heard(0, 9, 20);
        y.heard(1, 9, 0);
        y.heard(1, 9, 40);
        DUE.yes("both cross the first", y.cross(9, 0, 0) > 0 && y.cross(9, 1, 0) > 0);
        DUE.same("each with another one", y.pairings(9), 0);
    }

    private static void noPairing() {
        DUE.sentence("there is none, if there are not as many of both, none at all, or more than 6");
        HullEars x = corners();
        DUE.same("none at all", x.pairings(5), 0);
        x.heard(0, 5, 20);
        DUE.same("one alone", x.pairings(5), 0);
        DUE.same("no pair", x.ghost(5, 0, 0), -1);
        x.heard(1, 5, 0);
        DUE.same("one of both", x.pairings(5), 1);
        DUE.same("no ghost", x.ghost(5, 0, 0), 0);
        x.heard(1, 5, 0);
        DUE.same("one and two", x.pairings(5), 0);
        DUE.same("a ghost", x.ghost(5, 0, 0), 1);
        DUE.same("a ghost", x.ghost(5, 0, 1), 1);
        x.heard(0, 5, 20);
        DUE.same("two of both", x.pairings(5), 2);
        x.heard(0, 5, 20);
        DUE.same("three and two", x.pairings(5), 0);
    }

    private static void moreThanSix() {
        DUE.sentence("or more than 6");
        HullEars x = corners();
        int ways = 1;
        for (int k = 1; k <= 7; k++) {
            x.heard(0, 5, 20);
            x.heard(1, 5, 0);
            ways *= k;
            DUE.same(k + " of both", x.pairings(5), k <= 6 ? ways : 0);
            DUE.same("ghost", x.ghost(5, k - 1, 0), k <= 6 ? 0 : 1);
        }
        DUE.same("they still cross", x.cross(5, 6, 6), 2);
        HullEars y = corners();
        for (int k = 0; k < 12; k++) {
            y.heard(0, 5, 20);
            y.heard(1, 5, 0);
        }
        DUE.same("12 of both", y.pairings(5), 0);
        DUE.same("a ghost", y.ghost(5, 11, 11), 1);
        DUE.same("no pair", y.ghost(5, 12, 11), -1);
    }

    private static void ghosts() {
        DUE.sentence("A pair is a GHOST, if it is in no PAIRING.");
        HullEars x = corners();
        x.heard(0, 5, 20);
        x.heard(0, 5, 10);
        x.heard(1, 5, 0);
        x.heard(1, 5, 10);
        // (16, 15), (15, 16) and the like for 20 and 0; 10 goes up the west side, the other 10 up the east side.
        boolean[] cross = new boolean[4];
        for (int k = 0; k < 4; k++) {
            cross[k] = x.cross(5, k / 2, k % 2) > 0;
        }
        DUE.yes("the first cross", cross[0]);
        DUE.yes("the sides don't", !cross[3]);
        int straight = cross[0] && cross[3] ? 1 : 0;
        int other = cross[1] && cross[2] ? 1 : 0;
        DUE.same("pairings", x.pairings(5), straight + other);
        DUE.same("they cross, but in no pairing", x.ghost(5, 0, 0), 1 - straight);
        DUE.same("never", x.ghost(5, 1, 1), 1 - straight);
        DUE.same("the other way", x.ghost(5, 0, 1), 1 - other);
        DUE.same("the other way", x.ghost(5, 1, 0), 1 - other);
    }
}
