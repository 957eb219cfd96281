/** Promises 10 to 18: what is heard, echoes, wrecks, shoals, the tape and its rows. */
public final class HeardTest {
    private static final Due DUE = new Due("HeardTest");

    public static void main(String[] args) {
        heard();
        echoes();
        wrecksAndShoals();
        knownHeard();
        knownByTurns();
        knownEchoes();
        shoalsGo();
        tape();
        rows();
        DUE.finish();
    }

    private static void heard() {
        HullEars x = new HullEars();
        for (int i = 0; i < 24; i++) {
            DUE.same("P10 number", x.heard(i % 2, i, 79 - i), i);
        }
        DUE.same("P10 no room", x.heard(0, 0, 0), -5);
        DUE.same("P10 boat first", x.heard(2, 0, 0), -2);
        DUE.same("P10 boat", x.heard(-1, 0, 0), -2);
        DUE.same("P10 bell", x.heard(2, 24, 0), -1);
        DUE.same("P10 bell", x.heard(0, -1, 0), -1);
        DUE.same("P10 direction", x.heard(0, 0, 80), -1);
        DUE.same("P10 direction", x.heard(0, 0, -1), -1);
        DUE.same("P10 count", x.count(0), 24);
    }

    private static void echoes() {
        HullEars x = new HullEars();
        for (int i = 0; i < 12; i++) {
            DUE.same("P11 number", x.echo(i % 2, 2 * i, 9 * i), i);
        }
        DUE.same("P11 no room", x.echo(0, 0, 99), -5);
        DUE.same("P11 boat", x.echo(2, 0, 99), -2);
        DUE.same("P11 bell", x.echo(0, 24, 99), -1);
        DUE.same("P11 bell", x.echo(0, -1, 99), -1);
        DUE.same("P11 distance", x.echo(0, 0, 100), -1);
        DUE.same("P11 distance", x.echo(2, 0, -1), -1);
        DUE.same("P11 count", x.count(1), 12);
    }

    private static void wrecksAndShoals() {
        HullEars x = new HullEars();
        for (int i = 0; i < 8; i++) {
            DUE.same("P12 number", x.wreck(31 - i, 4 * i), i);
        }
        DUE.same("P12 no room", x.wreck(0, 0), -5);
        DUE.same("P12 number first", x.wreck(32, 0), -1);
        DUE.same("P12 wrong", x.wreck(-1, 0), -1);
        DUE.same("P12 wrong", x.wreck(0, 32), -1);
        DUE.same("P12 wrong", x.wreck(0, -1), -1);
        for (int i = 0; i < 6; i++) {
            DUE.same("P13 number", x.shoal(31, 31 - i, i + 4, i, 23 - i), i);
        }
        DUE.same("P13 no room", x.shoal(0, 0, 0, 5, 5), -5);
        int[][] wrong = {{-1, 0, 0, 0, 0}, {32, 0, 0, 0, 0}, {0, -1, 0, 0, 0}, {0, 32, 0, 0, 0}, {0, 0, -1, 0, 0},
            {0, 0, 10, 0, 0}, {0, 0, 0, -1, 0}, {0, 0, 0, 24, 24}, {0, 0, 0, 0, 24}, {0, 0, 0, 3, 2}, {0, 0, 0, 3, -1}};
        for (int[] w : wrong) {
            DUE.same("P13 wrong", x.shoal(w[0], w[1], w[2], w[3], w[4]), -1);
        }
    }

    private static void knownHeard() {
        HullEars x = new HullEars();
        x.boat(0, 10, 10, 5);
        x.heard(0, 0, 30);
        x.heard(0, 0, 29);
        x.heard(0, 0, 28);
        x.heard(1, 0, 30);
        x.wreck(20, 10);
        // From boat 0 the wreck is at 30, from boat 1 at (20, 10): 25.
        DUE.same("P14 at", x.known(0, 0), 1);
        DUE.same("P14 one off", x.known(0, 1), 1);
        DUE.same("P14 two off", x.known(0, 2), 0);
        DUE.same("P14 by its own boat", x.known(0, 3), 0);
        x.terms(0, 2);
        DUE.same("P14 greater error", x.known(0, 2), 1);
        x.terms(0, 0);
        DUE.same("P14 no error", x.known(0, 1), 0);
        DUE.same("P14 no error", x.known(0, 0), 1);
        x.boat(0, 20, 10, 5);
        DUE.same("P14 a wreck under the boat has no bearing", x.known(0, 0), 0);
        x.terms(0, 20);
        DUE.same("P14 nor with the greatest error", x.known(0, 0), 0);
        DUE.same("P14 none", x.known(0, 4), -1);
        DUE.same("P14 none", x.known(0, -1), -1);
        DUE.same("P14 none", x.known(1, 0), -1);
        DUE.same("P14 none", x.known(2, 0), -1);
        DUE.same("P14 none", x.known(-1, 0), -1);
    }

    private static void knownByTurns() {
        HullEars x = new HullEars();
        x.boat(0, 10, 10, 5);
        x.terms(0, 3);
        x.wreck(0, 19);
        // (-10, 9) is at 79; round the shorter way 2 is three off, 3 four off.
        DUE.same("P14", x.heard(0, 0, 2), 0);
        DUE.same("P14", x.heard(0, 0, 3), 1);
        DUE.same("P14 round", x.known(0, 0), 1);
        DUE.same("P14 round", x.known(0, 1), 0);
        // The boat's place at the bell counts: at 9 it is at (1, 10), the wreck at (-1, 9): 8 (floor of 8.9).
        x.leg(0, 0, -1, 0);
        x.heard(0, 9, 11);
        x.heard(0, 9, 12);
        DUE.same("P14 under way", x.known(0, 2), 1);
        DUE.same("P14 under way", x.known(0, 3), 0);
    }

    private static void knownEchoes() {
        HullEars x = new HullEars();
        x.wreck(3, 4);
        x.echo(0, 0, 4);
        x.echo(0, 0, 3);
        x.echo(0, 0, 6);
        x.echo(0, 0, 7);
        int[] due = {1, 0, 1, 0};
        for (int i = 0; i < 4; i++) {
            DUE.same("P14 echo " + i, x.known(1, i), due[i]);
        }
        x.terms(1, 0);
        DUE.same("P14 echo", x.known(1, 0), 0);
        x.terms(1, 9);
        DUE.same("P14 echo", x.known(1, 1), 1);
        DUE.same("P14 below 0 is 0", x.known(1, 1), 1);
        // No sound is asked for: the target's depth may be out of all reach.
        x.terms(1, 1);
        x.terms(3, 9);
        x.boat(0, 0, 0, 0);
        DUE.same("P14 depth", x.known(1, 0), 1);
        // An echo of nothing fits the own place.
        HullEars y = new HullEars();
        y.wreck(0, 0);
        y.echo(0, 0, 1);
        y.echo(0, 0, 2);
        DUE.same("P14 own place", y.known(1, 0), 1);
        DUE.same("P14 own place", y.known(1, 1), 0);
    }

    private static void shoalsGo() {
        HullEars x = new HullEars();
        x.terms(0, 0);
        x.boat(0, 0, 0, 5);
        x.heard(0, 4, 30);
        x.heard(0, 5, 30);
        x.heard(0, 7, 30);
        x.heard(0, 8, 30);
        x.heard(0, 5, 33);
        x.shoal(9, 3, 3, 5, 7);
        // Its lowest places are on the level of the boat.
        int[] due = {0, 1, 1, 0, 0};
        for (int i = 0; i < due.length; i++) {
            DUE.same("P13 there " + i, x.known(0, i), due[i]);
        }
        DUE.same("P13 new", x.count(7), 3);
        // Places beyond the sea belong to it, too: (6 .. 12, -3 .. 3) reaches below north 0.
        x.shoal(9, 0, 3, 0, 23);
        DUE.same("P13 beyond the sea", x.known(0, 4), 1);
        // The boat within a shoal hears it all round.
        x.shoal(1, 1, 2, 20, 23);
        x.heard(0, 23, 60);
        DUE.same("P13 within", x.known(0, 5), 1);
        x.echo(0, 23, 1);
        x.echo(0, 19, 1);
        x.echo(0, 23, 6);
        DUE.same("P14 shoal's echo", x.known(1, 0), 1);
        DUE.same("P14 not there yet", x.known(1, 1), 0);
        x.terms(1, 0);
        x.echo(0, 6, 12);
        DUE.same("P14 (12, 0) of the second", x.known(1, 3), 1);
        x.echo(0, 20, 99);
        DUE.same("P14 far", x.known(1, 4), 0);
    }

    private static void tape() {
        HullEars x = new HullEars();
        for (int i = 1; i <= 20; i++) {
            DUE.same("P15", x.feed(-1, Integer.MIN_VALUE, 1, 2, 3), 20 * i);
        }
        DUE.same("P15 full", x.feed(0, 0, 0, 0, 0), -1);
        DUE.same("P15 stays", x.count(8), 400);
        DUE.same("P16 too many", x.end(401), -1);
        DUE.same("P16 all", x.end(400), 400);
        DUE.same("P16", x.end(381), 381);
        DUE.same("P15 no room for 20", x.feed(0, 0, 0, 0, 0), -1);
        DUE.same("P16 not so many", x.end(382), -1);
        DUE.same("P16 below 0", x.end(-1), -1);
        DUE.same("P16", x.end(380), 380);
        DUE.same("P15 just room", x.feed(0, 0, 0, 0, 0), 400);
        DUE.same("P16 empty", x.end(0), 0);
        DUE.same("P16", x.count(8), 0);
        DUE.same("P16 none are refusals", x.status() + x.count(9), 0);
    }

    private static void rows() {
        HullEars x = new HullEars();
        DUE.same("P17 empty", x.row(), -6);
        DUE.same("P53", x.status(), -6);
        DUE.same("P18 ahead of any", x.torn(), 0);
        Due.type(x, "\u0001\u0017\u004f\u0000\u0018\u0000\u0002\u0000\u0000\u0000\u0000\u0050\u0000\u0000\u0000\u0001");
        DUE.same("P17", x.row(), 2);
        DUE.same("P18", x.torn(), 4);
        DUE.same("P17 tape", x.count(8), 0);
        DUE.same("P17 heard", x.count(0), 2);
        DUE.same("P17 in its watch", x.watch(5, 0), 1);
        DUE.same("P17 no refusals", x.count(9) + x.count(10) + x.count(12), 0);
        // High bytes are numbers above 127, not below 0.
        Due.type(x, "\u00ff\u0000\u0000\u0000\u00ff\u0000\u0000\u0000\u00ff");
        DUE.same("P17 none came", x.row(), 0);
        DUE.same("P17 no refusal", x.status(), 0);
        DUE.same("P18", x.torn(), 3);
        StringBuilder many = new StringBuilder();
        for (int i = 0; i < 25; i++) {
            many.append((char) (i % 2)).append((char) 3).append((char) i);
        }
        Due.type(x, many.toString());
        DUE.same("P17 room for 22", x.row(), 22);
        DUE.same("P18 no room for 3", x.torn(), 3);
        DUE.same("P17 empty", x.row(), -6);
        DUE.same("P18 of the latest not refused", x.torn(), 3);
        // What comes by a row is what heard() brings.
        HullEars y = new HullEars();
        y.terms(0, 0);
        Due.type(y, "\u0000\u0000\n");
        DUE.same("P17", y.row(), 1);
        DUE.same("P18 none torn", y.torn(), 0);
        DUE.same("P17 it counts", y.runs(), 3136);
    }
}
