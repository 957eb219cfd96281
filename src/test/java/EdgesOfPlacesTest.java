/** Terms I, sentence by sentence: places, bells, boats, legs, refusals, terms, the rose, ranges. */
public final class EdgesOfPlacesTest {
    private static final Due DUE = new Due("EdgesOfPlacesTest");
    private static final int[] FAR = {Integer.MIN_VALUE, -1000000, 1000000, Integer.MAX_VALUE};

    public static void main(String[] args) {
        calls();
        sea();
        bellsThatAreRefused();
        bellsWithoutAnswer();
        boatsThatAreRefused();
        boatsWithoutAnswer();
        atFirst();
        depths();
        sixLegs();
        laterLegs();
        paces();
        liesStill();
        speed();
        beyondTheSea();
        refusedInOrder();
        shoalBackwards();
        terms();
        rose();
        betweenDirections();
        nextRound();
        noWay();
        shorterWay();
        ranges();
        DUE.finish();
    }

    private static void calls() {
        DUE.sentence("An object is used for at most 512 calls after it has been made");
        HullEars x = new HullEars();
        x.wreck(31, 31);
        for (int call = 2; call <= 508; call++) {
            x.beat(call % 2 == 0 ? 0 : 3001);
        }
        DUE.same("call 509", x.count(9), 507);
        DUE.same("call 510", x.status(), -1);
        DUE.same("call 511", x.heard(0, 23, 20), 0);
        DUE.same("call 512", x.known(0, 0), 1);
        HullEars y = new HullEars();
        for (int call = 1; call < 511; call++) {
            DUE.same("call " + call, call % 2 == 0 ? y.back(0) : y.image(0), 0);
        }
        DUE.same("call 511", y.back(1), -2);
        DUE.same("call 512", y.status(), -2);
    }

    private static void sea() {
        DUE.sentence("of the SEA 0 .. 31 each");
        int[] within = {0, 31};
        int[] beyond = {-1, 32, FAR[0], FAR[1], FAR[2], FAR[3]};
        HullEars x = new HullEars();
        for (int in : within) {
            for (int other : within) {
                DUE.same("boat", x.boat(0, in, other, 5), 0);
                DUE.yes("wreck", x.wreck(in, other) >= 0);
                DUE.yes("shoal", x.shoal(in, other, 0, 0, 0) >= 0);
                DUE.yes("guess", x.guess(in, other, 0, 0) >= 0);
                DUE.same("misses", x.misses(in, other, 0, 0), 0);
            }
            for (int out : beyond) {
                DUE.same("boat east " + out, x.boat(0, out, in, 5), -1);
                DUE.same("boat north " + out, x.boat(0, in, out, 5), -1);
                DUE.same("wreck east " + out, x.wreck(out, in), -1);
                DUE.same("wreck north " + out, x.wreck(in, out), -1);
                DUE.same("shoal east " + out, x.shoal(out, in, 0, 0, 0), -1);
                DUE.same("shoal north " + out, x.shoal(in, out, 0, 0, 0), -1);
                DUE.same("guess east " + out, x.guess(out, in, 0, 0), -1);
                DUE.same("guess north " + out, x.guess(in, out, 0, 0), -1);
                DUE.same("misses east " + out, x.misses(out, in, 0, 0), -1);
                DUE.same("misses north " + out, x.misses(in, out, 0, 0), -1);
            }
        }
    }

    private static final int[] NO_BELLS = {-1, 24, Integer.MIN_VALUE, Integer.MAX_VALUE};

    private static void bellsThatAreRefused() {
        DUE.sentence("BELLS 0 .. 23.");
        for (int out : NO_BELLS) {
            HullEars x = new HullEars();
            DUE.same("leg at " + out, x.leg(0, out, 0, 0), -1);
            DUE.same("heard at " + out, x.heard(0, out, 0), -1);
            DUE.same("echo at " + out, x.echo(0, out, 0), -1);
            DUE.same("shoal from " + out, x.shoal(0, 0, 0, out, 23), -1);
            DUE.same("shoal to " + out, x.shoal(0, 0, 0, 0, out), -1);
            DUE.same("all were refused", x.count(9), 5);
        }
        HullEars x = new HullEars();
        DUE.same("leg at 0", x.leg(0, 0, 0, 0), 1);
        DUE.same("leg at 23", x.leg(0, 23, 0, 0), 2);
        DUE.same("heard at 0", x.heard(0, 0, 0), 0);
        DUE.same("heard at 23", x.heard(0, 23, 0), 1);
        DUE.same("echo at 0", x.echo(0, 0, 0), 0);
        DUE.same("echo at 23", x.echo(0, 23, 0), 1);
        DUE.same("shoal from 0 to 23", x.shoal(0, 0, 0, 0, 23), 0);
        DUE.same("shoal from 23 to 23", x.shoal(0, 0, 0, 23, 23), 1);
        DUE.same("shoal from 0 to 0", x.shoal(0, 0, 0, 0, 0), 2);
    }

    private static void bellsWithoutAnswer() {
        DUE.sentence("BELLS 0 .. 23.");
        HullEars x = new HullEars();
        x.offer(0, 0);
        for (int out : NO_BELLS) {
            DUE.same("where at " + out, x.where(0, out, 0), -1000);
            DUE.same("span at " + out, x.span(out, 0), -1000);
            DUE.same("alone at " + out, x.alone(out, 0), -1000);
            DUE.same("within at " + out, x.within(out, 0, 0, 99), -1);
            DUE.same("parts at " + out, x.parts(out, 1, 0), -1);
            DUE.same("turn at " + out, x.turn(out, 1), -1);
            DUE.same("heardBy at " + out, x.heardBy(out, 1, 0), -1);
            DUE.same("silent at " + out, x.silent(out, 1, 60000), -1);
            DUE.same("cross at " + out, x.cross(out, 0, 0), -1);
            DUE.same("pairings at " + out, x.pairings(out), -1);
            DUE.same("ghost at " + out, x.ghost(out, 0, 0), -1);
            DUE.same("tells at " + out, x.tells(0, out, 0, 0), -10000000);
            DUE.same("hears at " + out, x.hears(0, out), -1);
        }
        for (int bell = 0; bell <= 23; bell += 23) {
            x.heard(0, bell, 20);
            x.heard(1, bell, 20);
            DUE.same("where at " + bell, x.where(0, bell, 0), 0);
            DUE.yes("span at " + bell, x.span(bell, 0) > -1000);
            DUE.yes("within at " + bell, x.within(bell, 0, 0, 99) > 0);
            DUE.yes("cross at " + bell, x.cross(bell, 0, 0) > 0);
            DUE.same("pairings at " + bell, x.pairings(bell), 1);
            DUE.same("ghost at " + bell, x.ghost(bell, 0, 0), 0);
            DUE.same("tells at " + bell, x.tells(0, bell, 0, 0), 0);
            DUE.yes("hears at " + bell, x.hears(0, bell) > 0);
        }
        DUE.yes("parts at 0", x.parts(0, 1, 0) > 0);
        DUE.yes("parts up to 23", x.parts(22, 1, 0) > 0);
    }

    private static final int[] NO_BOATS = {-1, 2, Integer.MIN_VALUE, Integer.MAX_VALUE};

    private static void boatsThatAreRefused() {
        DUE.sentence("-2 there is no such BOAT, IMAGE");
        HullEars x = new HullEars();
        int refused = 0;
        for (int out : NO_BOATS) {
            DUE.same("boat " + out, x.boat(out, 0, 0, 5), -2);
            DUE.same("leg of " + out, x.leg(out, 0, 0, 0), -2);
            DUE.same("heard by " + out, x.heard(out, 0, 0), -2);
            DUE.same("echo by " + out, x.echo(out, 0, 0), -2);
            refused += 4;
            DUE.same("refused by -2", x.count(10), refused);
        }
        for (int boat = 0; boat <= 1; boat++) {
            DUE.same("boat " + boat, x.boat(boat, 0, 0, 5), 0);
            DUE.same("leg of " + boat, x.leg(boat, 0, 0, 0), 1);
            DUE.same("heard by " + boat, x.heard(boat, 0, 0), boat);
            DUE.same("echo by " + boat, x.echo(boat, 0, 0), boat);
        }
        DUE.same("no image 0 yet", x.back(0), -2);
        DUE.same("no image 1 yet", x.back(1), -2);
        DUE.same("there can be no image 2", x.back(2), -1);
    }

    private static void boatsWithoutAnswer() {
        DUE.sentence("BOATS 0, 1: a START in the SEA (0, 0 at first), DEPTH 0 .. 9 (5), LEGS, 6 at most");
        HullEars x = new HullEars();
        for (int out : NO_BOATS) {
            DUE.same("where is " + out, x.where(out, 0, 0), -1000);
            DUE.same("traces of " + out, x.traces(out), -1);
            DUE.same("tells of " + out, x.tells(out, 0, 0, 0), -10000000);
            DUE.same("hears " + out, x.hears(out, 0), -1);
        }
        for (int boat = 0; boat <= 1; boat++) {
            DUE.same("where is " + boat, x.where(boat, 0, 0), 0);
            DUE.same("traces of " + boat, x.traces(boat), 0);
            DUE.same("tells of " + boat, x.tells(boat, 0, 0, 0), 0);
            DUE.same("hears " + boat, x.hears(boat, 0), 50176);
        }
    }

    private static void atFirst() {
        DUE.sentence("a START in the SEA (0, 0 at first)");
        HullEars x = new HullEars();
        for (int boat = 0; boat <= 1; boat++) {
            for (int bell = 0; bell <= 23; bell++) {
                DUE.same("east", x.where(boat, bell, 0), 0);
                DUE.same("north", x.where(boat, bell, 1), 0);
            }
        }
        DUE.same("no legs", x.boat(0, 0, 0, 5), 0);
        DUE.same("no legs", x.boat(1, 0, 0, 5), 0);
    }

    private static void depths() {
        DUE.sentence("DEPTH 0 .. 9 (5)");
        HullEars x = new HullEars();
        DUE.same("law", Due.law(x, "noise depth"), 1);
        DUE.same("boat 0 at first", x.tells(0, 0, 0, 0), 5);
        DUE.same("boat 1 at first", x.tells(1, 23, 0, 0), 5);
        for (int depth = 0; depth <= 9; depth++) {
            DUE.same("boat", x.boat(1, 3, 3, depth), 0);
            DUE.same("depth", x.tells(1, 0, 0, 0), depth);
        }
        DUE.same("too low", x.boat(1, 3, 3, -1), -1);
        DUE.same("too great", x.boat(1, 3, 3, 10), -1);
        for (int far : FAR) {
            DUE.same("far away", x.boat(1, 3, 3, far), -1);
        }
        DUE.same("stays", x.tells(1, 0, 0, 0), 9);
        DUE.same("the other one stays", x.tells(0, 0, 0, 0), 5);
    }

    private static void sixLegs() {
        DUE.sentence("LEGS, 6 at most");
        for (int boat = 0; boat <= 1; boat++) {
            HullEars x = new HullEars();
            for (int leg = 1; leg <= 6; leg++) {
                DUE.same("leg", x.leg(boat, 3 * leg, leg % 4, 0), leg);
            }
            int end = x.where(boat, 23, 0);
            DUE.same("a seventh", x.leg(boat, 19, 3, 3), -5);
            DUE.same("nothing came of it", x.where(boat, 23, 0), end);
            DUE.same("nothing came of it", x.where(boat, 23, 1), 0);
            DUE.same("the other boat has room", x.leg(1 - boat, 19, 3, 3), 1);
            DUE.same("they go with a new start", x.boat(boat, 0, 0, 5), 6);
            DUE.same("there is room again", x.leg(boat, 0, 3, 3), 1);
        }
    }

    private static void laterLegs() {
        DUE.sentence("from a BELL on (later than the LEG ahead of it)");
        HullEars x = new HullEars();
        DUE.same("at 0", x.leg(0, 0, 1, 0), 1);
        DUE.same("at 0 again", x.leg(0, 0, 2, 0), -3);
        DUE.same("at 1", x.leg(0, 1, 0, 1), 2);
        DUE.same("at 1 again", x.leg(0, 1, 0, 1), -3);
        DUE.same("at 0 behind 1", x.leg(0, 0, 0, 1), -3);
        DUE.same("at 23", x.leg(0, 23, 3, 3), 3);
        DUE.same("at 23 again", x.leg(0, 23, 3, 3), -3);
        DUE.same("refused by -3", x.count(11), 4);
        DUE.same("east", x.where(0, 23, 0), 1);
        DUE.same("north", x.where(0, 23, 1), 22);
    }

    private static void paces() {
        DUE.sentence("so many PLACES east, north -3 .. 3 each BELL");
        int[] beyond = {-4, 4, FAR[0], FAR[3]};
        HullEars x = new HullEars();
        for (int out : beyond) {
            DUE.same("leg east " + out, x.leg(0, 0, out, 0), -1);
            DUE.same("leg north " + out, x.leg(0, 0, 0, out), -1);
            DUE.same("offer east " + out, x.offer(out, 0), -1);
            DUE.same("offer north " + out, x.offer(0, out), -1);
            DUE.same("guess east " + out, x.guess(0, 0, out, 0), -1);
            DUE.same("guess north " + out, x.guess(0, 0, 0, out), -1);
            DUE.same("misses east " + out, x.misses(0, 0, out, 0), -1);
            DUE.same("misses north " + out, x.misses(0, 0, 0, out), -1);
        }
        int[] within = {-3, 3};
        int number = 0;
        for (int u : within) {
            for (int v : within) {
                DUE.same("offer", x.offer(u, v), number);
                DUE.same("guess", x.guess(0, 0, u, v), number);
                DUE.same("misses", x.misses(0, 0, u, v), 0);
                number++;
                DUE.same("leg", x.leg(0, number, u, v), number);
                DUE.same("east", x.where(0, number + 1, 0), x.where(0, number, 0) + u);
                DUE.same("north", x.where(0, number + 1, 1), x.where(0, number, 1) + v);
            }
        }
    }

    private static void liesStill() {
        DUE.sentence("ahead of the first LEG a BOAT lies still");
        HullEars x = new HullEars();
        x.boat(0, 7, 8, 5);
        x.leg(0, 12, 3, -3);
        for (int bell = 0; bell <= 12; bell++) {
            DUE.same("east at " + bell, x.where(0, bell, 0), 7);
            DUE.same("north at " + bell, x.where(0, bell, 1), 8);
        }
        DUE.same("east behind it", x.where(0, 13, 0), 10);
        DUE.same("north behind it", x.where(0, 13, 1), 5);
        x.boat(1, 7, 8, 5);
        x.leg(1, 0, 1, 2);
        DUE.same("a leg from 0 on", x.where(1, 0, 0), 7);
        DUE.same("a leg from 0 on", x.where(1, 1, 0), 8);
    }

    private static void speed() {
        DUE.sentence("the greater one of both, without sign, of the LEG on which it goes from that BELL on (0 without)");
        int[][] due = {{0, 0, 0}, {1, 0, 1}, {0, -1, 1}, {-3, 2, 3}, {2, -3, 3}, {-2, -2, 2}, {-3, 0, 3}, {1, -2, 2}};
        for (int[] d : due) {
            HullEars x = new HullEars();
            x.leg(0, 5, d[0], d[1]);
            DUE.same("ahead of it", x.where(0, 4, 2), 0);
            DUE.same("from it on", x.where(0, 5, 2), d[2]);
            DUE.same("at last", x.where(0, 23, 2), d[2]);
            x.leg(0, 23, 0, 0);
            DUE.same("up to the next", x.where(0, 22, 2), d[2]);
            DUE.same("from the next on", x.where(0, 23, 2), 0);
            DUE.same("without a leg", x.where(1, 23, 2), 0);
        }
    }

    private static void beyondTheSea() {
        DUE.sentence("PLACES are whole numbers east and north");
        HullEars x = new HullEars();
        x.boat(0, 31, 0, 5);
        x.leg(0, 0, 3, -3);
        DUE.same("far east", x.where(0, 23, 0), 100);
        DUE.same("far south", x.where(0, 23, 1), -69);
        x.boat(1, 0, 31, 5);
        x.leg(1, 0, -3, 3);
        DUE.same("far west", x.where(1, 23, 0), -69);
        DUE.same("far north", x.where(1, 23, 1), 100);
    }

    private static void refusedInOrder() {
        DUE.sentence("The first of these in that order.");
        HullEars x = new HullEars();
        for (int leg = 0; leg < 6; leg++) {
            x.leg(0, 2 * leg, 0, 0);
        }
        DUE.same("-1 ahead of -2", x.leg(2, 24, 0, 0), -1);
        DUE.same("-1 ahead of -3, -5", x.leg(0, 10, 4, 0), -1);
        DUE.same("-1 ahead of -5", x.leg(0, 11, 4, 0), -1);
        DUE.same("-2 ahead of what follows", x.leg(2, 10, 0, 0), -2);
        DUE.same("-3 ahead of -5", x.leg(0, 10, 0, 0), -3);
        DUE.same("-5", x.leg(0, 11, 0, 0), -5);
        DUE.same("boat: -1 ahead of -2", x.boat(-1, 0, 0, 10), -1);
        fillAll(x);
        DUE.same("heard: -1 first", x.heard(2, 0, 80), -1);
        DUE.same("heard: -2 ahead of -5", x.heard(2, 0, 0), -2);
        DUE.same("heard: -5", x.heard(0, 0, 0), -5);
        DUE.same("echo: -1 first", x.echo(2, 24, 0), -1);
        DUE.same("echo: -2 ahead of -5", x.echo(2, 0, 0), -2);
        DUE.same("echo: -5", x.echo(0, 0, 0), -5);
        DUE.same("wreck: -1 ahead of -5", x.wreck(0, 32), -1);
        DUE.same("wreck: -5", x.wreck(0, 0), -5);
        DUE.same("shoal: -1 ahead of -5", x.shoal(0, 0, 0, 1, 0), -1);
        DUE.same("shoal: -5", x.shoal(0, 0, 0, 0, 0), -5);
        DUE.same("guess: -1 ahead of -5", x.guess(0, 0, 0, 4), -1);
        DUE.same("guess: -5", x.guess(0, 0, 0, 0), -5);
        DUE.same("offer: -1 ahead of -5", x.offer(0, -4), -1);
        DUE.same("offer: -5", x.offer(0, 0), -5);
        DUE.same("beat: -1 ahead of -5", x.beat(0), -1);
        DUE.same("beat: -5", x.beat(1), -5);
        DUE.same("cell: -1 ahead of -5", x.cell(0, 101), -1);
        DUE.same("cell: -5", x.cell(0, 0), -5);
        DUE.same("back: -1 ahead of -2", x.back(2), -1);
        DUE.same("back: -2", x.back(1), -2);
        int[] due = {13, 4, 1, 9, 0};
        for (int i = 0; i < 5; i++) {
            DUE.same("count " + (9 + i), x.count(9 + i), due[i]);
        }
    }

    private static void fillAll(HullEars x) {
        for (int i = 0; i < 24; i++) {
            x.heard(0, 0, 0);
            if (i < 12) x.echo(0, 0, 0);
            if (i < 8) x.wreck(0, 0);
            if (i < 6) x.shoal(0, 0, 0, 0, 0);
            if (i < 8) x.guess(0, 0, 0, 0);
            if (i < 8) x.offer(0, 0);
            if (i < 6) x.beat(1);
            if (i < 6) x.cell(0, 0);
        }
        DUE.same("nothing was refused by that", x.status(), 0);
    }

    private static void shoalBackwards() {
        DUE.sentence("-1 a number that can't be (to a BELL ahead of from, too)");
        HullEars x = new HullEars();
        DUE.same("one ahead", x.shoal(5, 5, 1, 7, 6), -1);
        DUE.same("all ahead", x.shoal(5, 5, 1, 23, 0), -1);
        DUE.same("none came", x.count(14), 0);
        DUE.same("refused by -1", x.count(9), 2);
        DUE.same("at the same", x.shoal(5, 5, 1, 7, 7), 0);
        DUE.same("one behind", x.shoal(5, 5, 1, 7, 8), 1);
    }

    private static void terms() {
        DUE.sentence("0 ERROR 0 .. 20 (1 at first), 1 OFF 0 .. 9 (1), 2 APART 0 .. 3 (0), 3 TARGET's DEPTH 0 .. 9 (5),"
            + " 4 GAP 1 .. 23 (4), 5 TURN 0 .. 40 (6)");
        int[][] each = {{0, 20, 1}, {0, 9, 1}, {0, 3, 0}, {0, 9, 5}, {1, 23, 4}, {0, 40, 6}};
        for (int what = 0; what < 6; what++) {
            HullEars x = new HullEars();
            int was = each[what][2];
            for (int value = each[what][0]; value <= each[what][1]; value++) {
                DUE.same("term " + what, x.terms(what, value), was);
                was = value;
            }
            DUE.same("too low", x.terms(what, each[what][0] - 1), -1);
            DUE.same("too great", x.terms(what, each[what][1] + 1), -1);
            DUE.same("far too low", x.terms(what, Integer.MIN_VALUE), -1);
            DUE.same("far too great", x.terms(what, Integer.MAX_VALUE), -1);
            DUE.same("stays", x.terms(what, each[what][0]), was);
            for (int other = 0; other < 6; other++) {
                if (other != what) DUE.same("the others stay", x.terms(other, each[other][2]), each[other][2]);
            }
        }
        HullEars x = new HullEars();
        DUE.same("no such term", x.terms(6, 1), -1);
        DUE.same("no such term", x.terms(-1, 1), -1);
        DUE.same("no such term", x.terms(Integer.MAX_VALUE, 1), -1);
        DUE.same("no such term", x.terms(Integer.MIN_VALUE, 1), -1);
    }

    private static int[] towards(int d) {
        if (d < 20) return new int[] {d - 10, 10};
        if (d < 40) return new int[] {10, 30 - d};
        return d < 60 ? new int[] {50 - d, -10} : new int[] {-10, d - 70};
    }

    private static void rose() {
        DUE.sentence("d is towards (d - 10, 10) for d 0 .. 19, (10, 30 - d) for 20 .. 39, (50 - d, -10) for 40 .. 59,"
            + " (-10, d - 70) for 60 .. 79");
        HullEars x = new HullEars();
        for (int d = 0; d < 80; d++) {
            DUE.same("towards " + d, x.bearing(towards(d)[0], towards(d)[1]), d);
            DUE.same("far towards " + d, x.bearing(100 * towards(d)[0], 100 * towards(d)[1]), d);
        }
        DUE.same("the nearest", x.bearing(-1, 1), 0);
        DUE.same("the nearest", x.bearing(1, 1), 20);
        DUE.same("the nearest", x.bearing(1, -1), 40);
        DUE.same("the nearest", x.bearing(-1, -1), 60);
    }

    private static void betweenDirections() {
        DUE.sentence("that d at which it lies, or between it and the next one round");
        HullEars x = new HullEars();
        for (int d = 0; d < 80; d++) {
            int[] one = towards(d);
            int[] next = towards((d + 1) % 80);
            DUE.same("in the middle behind " + d, x.bearing(one[0] + next[0], one[1] + next[1]), d);
            DUE.same("just behind " + d, x.bearing(90 * one[0] + next[0], 90 * one[1] + next[1]), d);
            DUE.same("just ahead of " + (d + 1), x.bearing(one[0] + 90 * next[0], one[1] + 90 * next[1]), d);
        }
    }

    private static void nextRound() {
        DUE.sentence("the next one round (79, then 0)");
        HullEars x = new HullEars();
        DUE.same("just ahead of 0", x.bearing(-1000, 999), 79);
        DUE.same("at 0", x.bearing(-1000, 1000), 0);
        DUE.same("just behind 0", x.bearing(-999, 1000), 0);
        DUE.same("at 79", x.bearing(-1000, 900), 79);
        DUE.same("just ahead of 79", x.bearing(-1000, 899), 78);
    }

    private static void noWay() {
        DUE.sentence("BEARING of a way that is not (0, 0)");
        HullEars x = new HullEars();
        DUE.same("no way", x.bearing(0, 0), -1);
        DUE.same("up", x.bearing(0, 1), 10);
        DUE.same("right", x.bearing(1, 0), 30);
        DUE.same("down", x.bearing(0, -1), 50);
        DUE.same("left", x.bearing(-1, 0), 70);
    }

    /** By what can be known, and what can be joined. */
    private static void shorterWay() {
        DUE.sentence("Two DIRECTIONS are as far from one another as it is round the shorter way.");
        for (int error = 0; error <= 20; error++) {
            HullEars x = new HullEars();
            x.boat(0, 10, 10, 5);
            x.terms(0, error);
            // A wreck at 0.
            x.wreck(0, 20);
            x.heard(0, 0, error);
            x.heard(0, 0, error + 1);
            x.heard(0, 0, (80 - error) % 80);
            x.heard(0, 0, 79 - error);
            x.heard(0, 0, 40);
            int[] due = {1, 0, 1, 0, 0};
            for (int k = 0; k < 5; k++) {
                DUE.same("error " + error + ", " + k, x.known(0, k), due[k]);
            }
        }
        for (int way = 0; way < 80; way++) {
            HullEars x = new HullEars();
            x.heard(0, 3, 75);
            x.heard(0, 4, (75 + way) % 80);
            int far = Math.min(way, 80 - way);
            x.terms(5, far);
            DUE.same("joined " + way + " round", x.traces(0), 1);
            if (far > 0) {
                x.terms(5, far - 1);
                DUE.same("not joined " + way + " round", x.traces(0), 2);
            }
        }
    }

    private static void ranges() {
        DUE.sentence("RANGE of a way: the greater one of both, without sign.");
        int[][] ways = {{0, 0}, {3, 0}, {0, 3}, {-3, 0}, {0, -3}, {3, 2}, {-2, 3}, {-3, -3}, {1, -3}, {-3, 1}};
        for (int[] w : ways) {
            HullEars x = new HullEars();
            x.terms(0, 0);
            x.terms(1, 0);
            x.echo(0, 0, 0);
            x.echo(0, 23, 0);
            x.boat(0, 16, 16, 5);
            // One run alone, at rest at (16, 16).
            DUE.same("alone", x.runs(), 1);
            int range = Math.max(Math.abs(w[0]), Math.abs(w[1]));
            DUE.same("within", x.within(9, 16 + w[0], 16 + w[1], range), 1);
            if (range > 0) {
                DUE.same("not within", x.within(9, 16 + w[0], 16 + w[1], range - 1), 0);
            }
            x.boat(1, 16 - w[0], 16 - w[1], 5);
            Due.law(x, "noise 1 if range=" + range + ";ear 1");
            DUE.same("hears in the range", x.hears(1, 9), 1);
            Due.law(x, "noise 1 if not range=" + range + ";ear 1");
            DUE.same("hears in no other", x.hears(1, 9), 0);
        }
    }
}
