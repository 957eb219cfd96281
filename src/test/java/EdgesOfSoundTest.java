/** Terms II, sentence by sentence: days, layers, rays, what is heard, echoes, wrecks, shoals, rows. */
public final class EdgesOfSoundTest {
    private static final Due DUE = new Due("EdgesOfSoundTest");

    public static void main(String[] args) {
        days();
        layers();
        layersOfTheDay();
        fiveSlopes();
        bends();
        noMoreThanTwo();
        noneBeside();
        turnedBack();
        oneOff();
        stepsAsRange();
        heardAtMost();
        directions();
        echoesAtMost();
        distances();
        wrecksAtMost();
        shoalsAtMost();
        wide();
        shoalBells();
        knownByError();
        knownByShoals();
        knownEchoes();
        allOthersAreNew();
        tornThatCannotBe();
        tornWithoutRoom();
        tornByTheEnd();
        DUE.finish();
    }

    private static void days() {
        DUE.sentence("DAYS 0 .. 2; one is in use (0 at first).");
        HullEars x = new HullEars();
        DUE.same("at first", x.count(16), 0);
        int[] wrong = {-1, 3, Integer.MIN_VALUE, Integer.MAX_VALUE};
        for (int day = 0; day <= 2; day++) {
            DUE.same("which was", x.day(day), Math.max(0, day - 1));
            for (int w : wrong) {
                DUE.same("no such day", x.day(w), -1);
                DUE.same("stays", x.count(16), day);
            }
        }
        DUE.same("which was", x.day(2), 2);
        DUE.same("which was", x.day(0), 2);
    }

    private static void layers() {
        DUE.sentence("LAYERS 0 .. 9 (by DEPTH) of each DAY: SLOW 0 .. 200 (100 at first)");
        HullEars x = new HullEars();
        for (int day = 0; day <= 2; day++) {
            x.day(day);
            for (int depth = 0; depth <= 9; depth++) {
                DUE.same("at first", x.layer(depth, 0), 100);
                DUE.same("least", x.layer(depth, 200), 0);
                DUE.same("greatest", x.layer(depth, 10 * day + depth), 200);
            }
            int[] far = {Integer.MIN_VALUE, -1, 10, Integer.MAX_VALUE};
            for (int depth : far) {
                DUE.same("no such layer", x.layer(depth, 100), -1);
            }
            DUE.same("too low", x.layer(0, -1), -1);
            DUE.same("too great", x.layer(9, 201), -1);
            DUE.same("far too low", x.layer(0, Integer.MIN_VALUE), -1);
            DUE.same("far too great", x.layer(9, Integer.MAX_VALUE), -1);
        }
        for (int day = 2; day >= 0; day--) {
            x.day(day);
            for (int depth = 0; depth <= 9; depth++) {
                DUE.same("each has its own", x.layer(depth, 1), 10 * day + depth);
            }
        }
    }

    private static void layersOfTheDay() {
        DUE.sentence("those of the DAY in use count");
        HullEars x = new HullEars();
        // Below 4 all goes down: from 4 in one step, nothing comes up by two.
        x.layer(5, 200);
        DUE.same("bent", x.reaches(4, 1, 1), 0);
        DUE.same("bent", x.reaches(4, 7, 1), 1);
        x.day(1);
        DUE.same("another day", x.reaches(4, 1, 1), 1);
        x.layer(3, 200);
        DUE.same("bent up", x.reaches(4, 7, 1), 0);
        DUE.same("bent up", x.reaches(4, 1, 1), 1);
        x.day(2);
        DUE.same("another day", x.reaches(4, 7, 1), 1);
        DUE.same("another day", x.reaches(4, 1, 1), 1);
        x.day(0);
        DUE.same("the first day", x.reaches(4, 1, 1), 0);
        // For all that is asked, at once when another day is in use.
        HullEars y = new HullEars();
        y.terms(0, 9);
        y.terms(3, 8);
        y.boat(0, 0, 0, 1);
        y.boat(1, 31, 0, 1);
        y.heard(0, 0, 20);
        y.heard(1, 0, 0);
        y.guess(31, 31, 0, 0);
        y.offer(1, 1);
        y.day(2);
        for (int depth = 0; depth <= 9; depth++) {
            y.layer(depth, 10 * depth);
        }
        int[] bent = answers(y);
        y.day(0);
        int[] straight = answers(y);
        y.day(2);
        int[] again = answers(y);
        y.day(1);
        int[] other = answers(y);
        for (int i = 0; i < bent.length; i++) {
            DUE.yes("bent otherwise " + i, bent[i] != straight[i]);
            DUE.same("bent again " + i, again[i], bent[i]);
            DUE.same("straight again " + i, other[i], straight[i]);
        }
    }

    private static int[] answers(HullEars x) {
        return new int[] {x.runs(), x.misses(16, 15, 0, 0), x.least(1), x.better(0), x.cross(0, 0, 0), x.hears(0, 0),
            x.heardBy(0, 1, 0), x.parts(0, 1, 0), x.span(3, 1)};
    }

    private static void reached(HullEars x, String what, int from, int range, String due) {
        for (int to = 0; to <= 9; to++) {
            DUE.same(what + " from " + from + " to " + to + " in " + range, x.reaches(from, to, range),
                due.charAt(to) - '0');
        }
    }

    private static void fiveSlopes() {
        DUE.sentence("A RAY leaves at a DEPTH with a SLOPE -2 .. 2.");
        HullEars x = new HullEars();
        // Without bends 2, 3, 4, 5, 6 in one step; 0, 2, 4, 6, 8 in two.
        reached(x, "one step", 4, 1, "0111111100");
        reached(x, "two steps", 4, 2, "1111111111");
        // In four steps from 4: -4 turned to 4, 0, 4, 8, 12 turned to 6.
        reached(x, "four steps", 4, 4, "1101111111");
    }

    private static void bends() {
        DUE.sentence("its SLOPE becomes more by 1, if SLOW of the LAYER below it (by DEPTH and 1) is above that of the"
            + " one above it (DEPTH less 1), less by 1, if it is below");
        HullEars x = new HullEars();
        x.layer(5, 101);
        // Slopes -1, 0, 1, 2, 2 from 4; -2, -2, -1, 0, 1 from 6; none bent from 5.
        reached(x, "down", 4, 1, "0011111100");
        reached(x, "up", 6, 1, "0001111110");
        reached(x, "straight", 5, 1, "0011111110");
        x.layer(5, 99);
        reached(x, "up", 4, 1, "0111111000");
        reached(x, "down", 6, 1, "0000111111");
        x.layer(3, 99);
        reached(x, "alike", 4, 1, "0111111100");
    }

    private static void noMoreThanTwo() {
        DUE.sentence("no more than 2, no less than -2; then DEPTH moves by SLOPE");
        HullEars x = new HullEars();
        for (int depth = 0; depth <= 9; depth++) {
            x.layer(depth, 10 * depth);
        }
        // From 0: 1 (turned), 0, 1, 2, 2 with slopes 1, 0, 1, 2, 2; then 3, 1, 3, 4, 4.
        reached(x, "one step", 0, 1, "1111000000");
        reached(x, "two steps", 0, 2, "1111110000");
        for (int depth = 0; depth <= 9; depth++) {
            x.layer(depth, 200 - 10 * depth);
        }
        reached(x, "one step up", 9, 1, "0000001111");
        reached(x, "two steps up", 9, 2, "0000111111");
    }

    private static void noneBeside() {
        DUE.sentence("(there is none beside 0, 9: its own LAYER's instead)");
        HullEars x = new HullEars();
        x.layer(0, 200);
        // From 0: slopes -2, -2, -1, 0, 1: 2, 2, 1, 0, 1; then 4, 4, 1, 1 (turned), 1; then 6, 6, 0, 1, 0.
        reached(x, "top", 0, 3, "1110011100");
        HullEars y = new HullEars();
        y.layer(9, 200);
        reached(y, "bottom", 9, 3, "0011100111");
        HullEars z = new HullEars();
        // Their own layer and the one beside alike: no bend, whatever lies further on.
        z.layer(2, 200);
        z.layer(7, 0);
        reached(z, "top", 0, 1, "1111000000");
        reached(z, "bottom", 9, 1, "0000001111");
        z.layer(1, 101);
        // From 0 all are bent down: -1, 0, 1, 2, 2: 1, 0, 1, 2, 2.
        reached(z, "top", 0, 1, "1111000000");
    }

    private static void turnedBack() {
        DUE.sentence("beyond 0 or 9 it is as far within instead, and SLOPE turns its sign");
        HullEars x = new HullEars();
        // From 1: -1 is turned to 1 and goes on to 7; -1 to 3; 1; 5; 9.
        reached(x, "four steps", 1, 4, "1111111111");
        // Six steps: 11 turned to 7; 5; 1; 7; 13 turned to 5.
        reached(x, "six steps", 1, 6, "1110111110");
        // From 8: the same upside down.
        reached(x, "six steps", 8, 6, "0111110111");
        reached(x, "to the top", 2, 1, "1111110000");
        reached(x, "to the bottom", 7, 1, "0000111111");
        // 0 and 9 themselves are not beyond: who comes to 0 by slope -1 and is bent there stays, 0 its slope.
        x.layer(0, 0);
        reached(x, "at the top", 1, 2, "1111111000");
        x.layer(0, 100);
        x.layer(9, 0);
        reached(x, "at the bottom", 8, 2, "0001111111");
    }

    private static void oneOff() {
        DUE.sentence("if a RAY from there (one of five) is at it, or one off");
        HullEars x = new HullEars();
        for (int from = 0; from <= 9; from++) {
            for (int to = 0; to <= 9; to++) {
                DUE.same("range 0", x.reaches(from, to, 0), Math.abs(from - to) <= 1 ? 1 : 0);
            }
        }
    }

    private static void stepsAsRange() {
        DUE.sentence("behind as many STEPS as RANGE tells");
        HullEars x = new HullEars();
        // From 0 the fastest is at 2, 4, 6, 8; one off counts.
        for (int to = 2; to <= 9; to++) {
            for (int range = 0; range < to / 2; range++) {
                DUE.same("not in " + range + " to " + to, x.reaches(0, to, range), 0);
            }
            DUE.same("in " + to / 2 + " to " + to, x.reaches(0, to, to / 2), 1);
        }
        // The slope 0 stays where it is, all ranges long.
        for (int range = 0; range <= 200; range += 40) {
            DUE.same("straight on", x.reaches(7, 7, range), 1);
        }
        DUE.same("too far", x.reaches(7, 7, 201), -1);
    }

    private static void heardAtMost() {
        DUE.sentence("HEARD, 24 at most");
        HullEars x = new HullEars();
        for (int k = 0; k < 24; k++) {
            DUE.same("its number", x.heard(k % 2, k, 3 * k), k);
        }
        DUE.same("a 25th", x.heard(0, 0, 0), -5);
        DUE.same("a 25th of the other", x.heard(1, 0, 0), -5);
        DUE.same("24", x.count(0), 24);
        DUE.same("the last is there", x.known(0, 23), 0);
        DUE.same("no other", x.known(0, 24), -1);
        DUE.same("echoes have room", x.echo(0, 0, 0), 0);
    }

    private static void directions() {
        DUE.sentence("The ROSE has 80 DIRECTIONS");
        HullEars x = new HullEars();
        int[] wrong = {-1, 80, 81, Integer.MIN_VALUE, Integer.MAX_VALUE};
        for (int w : wrong) {
            DUE.same("no direction " + w, x.heard(0, 0, w), -1);
        }
        DUE.same("the first", x.heard(0, 0, 0), 0);
        DUE.same("the last", x.heard(0, 0, 79), 1);
    }

    private static void echoesAtMost() {
        DUE.sentence("ECHOES, 12 at most");
        HullEars x = new HullEars();
        for (int k = 0; k < 12; k++) {
            DUE.same("its number", x.echo(k % 2, k, 3 * k), k);
        }
        DUE.same("a 13th", x.echo(0, 0, 0), -5);
        DUE.same("a 13th of the other", x.echo(1, 0, 0), -5);
        DUE.same("12", x.count(1), 12);
        DUE.same("the last is there", x.known(1, 11), 0);
        DUE.same("no other", x.known(1, 12), -1);
        DUE.same("heard ones have room", x.heard(0, 0, 0), 0);
    }

    private static void distances() {
        DUE.sentence("by a BOAT at a BELL a DISTANCE 0 .. 99");
        HullEars x = new HullEars();
        int[] wrong = {-1, 100, Integer.MIN_VALUE, Integer.MAX_VALUE};
        for (int w : wrong) {
            DUE.same("no distance " + w, x.echo(0, 0, w), -1);
        }
        DUE.same("the least", x.echo(0, 0, 0), 0);
        DUE.same("the greatest", x.echo(0, 0, 99), 1);
    }

    private static void wrecksAtMost() {
        DUE.sentence("WRECKS, 8 at most, in the SEA.");
        HullEars x = new HullEars();
        for (int k = 0; k < 8; k++) {
            DUE.same("its number", x.wreck(4 * k, 31), k);
        }
        DUE.same("a ninth", x.wreck(31, 0), -5);
        DUE.same("8", x.count(2), 8);
        x.boat(0, 31, 9, 5);
        x.heard(0, 0, 50);
        DUE.same("nothing came of it", x.known(0, 0), 0);
        x.boat(0, 28, 9, 5);
        x.heard(0, 0, 10);
        DUE.same("the eighth is there", x.known(0, 1), 1);
    }

    private static void shoalsAtMost() {
        DUE.sentence("SHOALS, 6 at most");
        HullEars x = new HullEars();
        for (int k = 0; k < 6; k++) {
            DUE.same("its number", x.shoal(4 * k, 31, 0, 0, 23), k);
        }
        DUE.same("a seventh", x.shoal(31, 0, 9, 0, 23), -5);
        DUE.same("6", x.count(14), 6);
        x.boat(0, 31, 20, 5);
        x.heard(0, 0, 50);
        DUE.same("nothing came of it", x.known(0, 0), 0);
        x.boat(0, 20, 9, 5);
        x.heard(0, 0, 10);
        DUE.same("the sixth is there", x.known(0, 1), 1);
    }

    /** Distances tell how far a shoal goes. */
    private static void wide() {
        DUE.sentence("all PLACES in a RANGE of WIDE 0 .. 9 at most from one of the SEA");
        for (int wide = 0; wide <= 9; wide++) {
            HullEars x = new HullEars();
            x.terms(1, 0);
            x.boat(0, 1, 16, 5);
            DUE.same("shoal", x.shoal(20, 16, wide, 0, 23), 0);
            for (int k = 0; k < 2; k++) {
                x.echo(0, 0, 19 + wide + k);
                x.echo(0, 0, 19 - wide - k);
            }
            int[] due = {1, 1, 0, 0};
            for (int k = 0; k < 4; k++) {
                // 19 + wide + 1 may be met aslant by a place of the shoal's far side.
                boolean aslant = k == 2 && meets(19, wide, 20 + wide);
                DUE.same("wide " + wide + " echo " + k, x.known(1, k), aslant ? 1 : due[k]);
            }
        }
        HullEars x = new HullEars();
        int[] wrong = {-1, 10, Integer.MIN_VALUE, Integer.MAX_VALUE};
        for (int w : wrong) {
            DUE.same("no such width " + w, x.shoal(5, 5, w, 0, 23), -1);
        }
        // Beyond the sea, too: from (0, 0) one of (-9 .. 9, -9 .. 9).
        x.terms(0, 0);
        x.shoal(0, 0, 9, 0, 23);
        x.heard(0, 0, 60);
        DUE.same("beyond the sea", x.known(0, 0), 1);
    }

    private static boolean meets(int middle, int wide, int distance) {
        for (int e = middle - wide; e <= middle + wide; e++) {
            for (int n = -wide; n <= wide; n++) {
                if (e * e + n * n == distance * distance) return true;
            }
        }
        return false;
    }

    private static void shoalBells() {
        DUE.sentence("from a BELL to another one");
        HullEars x = new HullEars();
        x.shoal(0, 9, 0, 4, 9);
        x.shoal(9, 0, 0, 0, 0);
        x.shoal(9, 9, 0, 23, 23);
        int[][] asked = {{3, 10, 0}, {4, 10, 1}, {6, 10, 1}, {9, 10, 1}, {10, 10, 0}, {0, 30, 1}, {1, 30, 0},
            {22, 20, 0}, {23, 20, 1}};
        for (int k = 0; k < asked.length; k++) {
            x.heard(0, asked[k][0], asked[k][1]);
            DUE.same("at " + asked[k][0], x.known(0, k), asked[k][2]);
            x.echo(0, asked[k][0], asked[k][1] == 20 ? 12 : 9);
            DUE.same("echo at " + asked[k][0], x.known(1, k), asked[k][2]);
        }
    }

    private static void knownByError() {
        DUE.sentence("if the BEARING of a WRECK, or of a PLACE of a SHOAL that is there at its BELL, from the BOAT there is"
            + " at most ERROR from it");
        for (int error = 0; error <= 20; error++) {
            HullEars x = new HullEars();
            x.terms(0, error);
            x.boat(1, 16, 16, 5);
            x.leg(1, 0, 0, -1);
            // At bell 6 boat 1 is at (16, 10); the wreck is at 30 from there.
            x.wreck(20, 10);
            int[] off = {-error - 1, -error, error, error + 1};
            for (int k = 0; k < 4; k++) {
                x.heard(1, 6, 30 + off[k]);
                DUE.same("error " + error + " off " + off[k], x.known(0, k), Math.abs(off[k]) <= error ? 1 : 0);
            }
        }
        HullEars x = new HullEars();
        x.terms(0, 20);
        x.wreck(0, 0);
        for (int d = 0; d < 80; d += 10) {
            x.heard(0, 0, d);
            DUE.same("no bearing of the own place", x.known(0, d / 10), 0);
        }
    }

    private static void knownByShoals() {
        DUE.sentence("a PLACE of a SHOAL that is there at its BELL");
        HullEars x = new HullEars();
        x.terms(0, 0);
        x.boat(0, 16, 16, 5);
        // The boat in the middle of it: all directions but the own place's none.
        x.shoal(16, 16, 9, 7, 7);
        for (int d = 0; d < 8; d++) {
            x.heard(0, 7, 10 * d);
            DUE.same("all round", x.known(0, d), 1);
        }
        x.heard(0, 8, 0);
        DUE.same("gone", x.known(0, 8), 0);
        x.heard(0, 6, 0);
        DUE.same("not there yet", x.known(0, 9), 0);
        HullEars y = new HullEars();
        y.terms(0, 20);
        y.shoal(0, 0, 0, 0, 23);
        y.heard(0, 5, 10);
        DUE.same("under the boat alone", y.known(0, 0), 0);
    }

    private static void knownEchoes() {
        DUE.sentence("an ECHO, if such a WRECK or PLACE FITS it");
        HullEars x = new HullEars();
        x.terms(1, 2);
        x.wreck(12, 16);
        // At distance 20; 18 .. 22 are two off.
        for (int k = 0; k < 7; k++) {
            x.echo(0, k, 17 + k);
            DUE.same("distance " + (17 + k), x.known(1, k), Math.abs(k - 3) <= 2 ? 1 : 0);
        }
        DUE.sentence("(for WRECKS, SHOALS that is not asked)");
        HullEars y = new HullEars();
        y.terms(3, 9);
        y.boat(0, 0, 0, 0);
        y.wreck(1, 0);
        y.shoal(0, 2, 0, 1, 1);
        y.terms(1, 0);
        y.echo(0, 0, 1);
        y.echo(0, 1, 2);
        y.heard(0, 0, 30);
        y.heard(0, 1, 10);
        DUE.same("no sound comes up in one step", y.reaches(9, 0, 1), 0);
        DUE.same("wreck's echo", y.known(1, 0), 1);
        DUE.same("shoal's echo", y.known(1, 1), 1);
        DUE.same("wreck heard", y.known(0, 0), 1);
        DUE.same("shoal heard", y.known(0, 1), 1);
    }

    private static void allOthersAreNew() {
        DUE.sentence("All others are NEW.");
        HullEars x = new HullEars();
        for (int k = 0; k < 24; k++) {
            x.heard(k % 2, k, 10);
            if (k < 12) x.echo(k % 2, k, 9);
        }
        DUE.same("without wrecks all", x.count(7), 36);
        for (int k = 0; k < 24; k++) {
            DUE.same("heard", x.known(0, k), 0);
            if (k < 12) DUE.same("echo", x.known(1, k), 0);
        }
        x.wreck(0, 9);
        DUE.same("none are left", x.count(7), 0);
        x.boat(1, 9, 9, 5);
        // From there the wreck is at 70, in the same distance.
        DUE.same("those of one boat", x.count(7), 12);
    }

    private static void row(HullEars x, String bytes, int came, int torn) {
        Due.type(x, bytes);
        DUE.same("came", x.row(), came);
        DUE.same("torn", x.torn(), torn);
        DUE.same("no refusal", x.status(), 0);
        DUE.same("the tape is empty", x.count(8), 0);
    }

    private static void tornThatCannotBe() {
        DUE.sentence("one that can't be");
        HullEars x = new HullEars();
        row(x, "\u0002\u0000\u0000", 0, 1);
        row(x, "\u00ff\u0000\u0000", 0, 1);
        row(x, "\u0000\u0018\u0000", 0, 1);
        row(x, "\u0001\u00ff\u0000", 0, 1);
        row(x, "\u0000\u0000\u0050", 0, 1);
        row(x, "\u0001\u0000\u00ff", 0, 1);
        row(x, "\u0002\u0018\u0050", 0, 1);
        DUE.same("none came", x.count(0), 0);
        row(x, "\u0001\u0017\u004f", 1, 0);
        row(x, "\u0000\u0000\u0000", 1, 0);
        row(x, "\u0000\u0000\u0050\u0001\u0001\u0001\u0002\u0000\u0000\u0000\u0002\u0002", 2, 2);
        DUE.same("those between came", x.count(0), 4);
        DUE.same("at bell 1", x.watch(0, 0), 3);
        DUE.same("at bell 23", x.watch(5, 0), 1);
        int refused = 0;
        for (int what = 9; what <= 13; what++) {
            refused += x.count(what);
        }
        DUE.same("what is torn is not refused", refused, 0);
    }

    private static void tornWithoutRoom() {
        DUE.sentence("one for which there is no room");
        HullEars x = new HullEars();
        for (int k = 0; k < 22; k++) {
            x.heard(0, 0, k);
        }
        row(x, "\u0000\u0001\u0001\u0003\u0001\u0002\u0001\u0002\u0003\u0000\u0003\u0004\u0000\u0004\u0005", 2, 3);
        DUE.same("24", x.count(0), 24);
        row(x, "\u0000\u0001\u0001", 0, 1);
        row(x, "\u0000", 0, 1);
        DUE.same("24", x.count(0), 24);
        DUE.same("the first two that could be", x.traces(1), 1);
        // The longest tape: 133 threes and one byte.
        HullEars y = new HullEars();
        StringBuilder bytes = new StringBuilder();
        for (int i = 0; i < 400; i++) {
            bytes.append((char) 0);
        }
        row(y, bytes.toString(), 24, 110);
    }

    private static void tornByTheEnd() {
        DUE.sentence("one within which the TAPE ends is TORN: none");
        HullEars x = new HullEars();
        row(x, "\u0000", 0, 1);
        row(x, "\u0000\u0000", 0, 1);
        row(x, "\u0000\u0000\u0000", 1, 0);
        row(x, "\u0000\u0000\u0000\u0001", 1, 1);
        row(x, "\u0000\u0000\u0000\u0001\u0001", 1, 1);
        // What can't be anyhow is torn once.
        row(x, "\u0009\u0063", 0, 1);
        DUE.same("three came", x.count(0), 3);
        // Bytes cut off before are none.
        x.feed(0, 0, 0, 0, 0);
        x.end(4);
        DUE.same("came", x.row(), 1);
        DUE.same("torn", x.torn(), 1);
    }
}
