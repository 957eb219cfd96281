/** Promises 1 to 9: boats, terms, days, layers, rays, bearings. */
public final class BoatsTest {
    private static final Due DUE = new Due("BoatsTest");

    public static void main(String[] args) {
        newObject();
        boats();
        legs();
        where();
        terms();
        days();
        reaches();
        bentRays();
        bearing();
        DUE.finish();
    }

    private static void newObject() {
        HullEars x = new HullEars();
        for (int boat = 0; boat < 2; boat++) {
            for (int what = 0; what < 3; what++) {
                DUE.same("P1 where " + boat + " " + what, x.where(boat, 0, what), 0);
                DUE.same("P1 where at 23", x.where(boat, 23, what), 0);
            }
        }
        for (int what = 0; what <= 16; what++) {
            DUE.same("P1 count " + what, x.count(what), 0);
        }
        DUE.same("P1 status", x.status(), 0);
        DUE.same("P1 torn", x.torn(), 0);
        DUE.same("P1 fault", x.fault(), -1);
        DUE.same("P1 runs", x.runs(), 32 * 32 * 49);
        // Two objects share nothing.
        HullEars y = new HullEars();
        y.boat(0, 7, 8, 9);
        y.heard(0, 0, 5);
        y.layer(3, 7);
        DUE.same("P1 apart", x.where(0, 0, 0), 0);
        DUE.same("P1 apart", x.count(0), 0);
        DUE.same("P1 apart", x.layer(3, 9), 100);
    }

    private static void boats() {
        HullEars x = new HullEars();
        DUE.same("P2", x.boat(0, 31, 0, 9), 0);
        DUE.same("P2", x.boat(1, 0, 31, 0), 0);
        DUE.same("P2 east", x.where(0, 5, 0), 31);
        DUE.same("P2 north", x.where(1, 5, 1), 31);
        x.leg(0, 0, 1, 1);
        x.leg(0, 4, 1, 2);
        DUE.same("P2 legs it had", x.boat(0, 4, 5, 6), 2);
        DUE.same("P2 legs are gone", x.where(0, 9, 0), 4);
        DUE.same("P2 speed is gone", x.where(0, 9, 2), 0);
        DUE.same("P2 a leg may be early again", x.leg(0, 0, 1, 1), 1);
        int[][] wrong = {{0, -1, 0, 0}, {0, 32, 0, 0}, {0, 0, -1, 0}, {0, 0, 32, 0}, {0, 0, 0, -1}, {0, 0, 0, 10},
            {2, 32, 0, 0}};
        for (int[] w : wrong) {
            DUE.same("P2 wrong", x.boat(w[0], w[1], w[2], w[3]), -1);
        }
        DUE.same("P2 no boat", x.boat(2, 0, 0, 0), -2);
        DUE.same("P2 no boat", x.boat(-1, 0, 0, 0), -2);
        DUE.same("P2 refused: nothing changed", x.where(0, 0, 1), 5);
        DUE.same("P2 refused: leg stays", x.where(0, 9, 0), 13);
    }

    private static void legs() {
        HullEars x = new HullEars();
        DUE.same("P3", x.leg(1, 3, -3, 3), 1);
        DUE.same("P3 same bell", x.leg(1, 3, 0, 0), -3);
        DUE.same("P3 earlier", x.leg(1, 2, 0, 0), -3);
        DUE.same("P3 the other boat is free", x.leg(0, 2, 0, 0), 1);
        DUE.same("P3 no boat", x.leg(2, 2, 0, 0), -2);
        DUE.same("P3 number first", x.leg(2, 24, 0, 0), -1);
        DUE.same("P3 bell", x.leg(1, -1, 0, 0), -1);
        DUE.same("P3 east", x.leg(1, 9, 4, 0), -1);
        DUE.same("P3 east", x.leg(1, 9, -4, 0), -1);
        DUE.same("P3 north", x.leg(1, 9, 0, 4), -1);
        DUE.same("P3 north", x.leg(1, 9, 0, -4), -1);
        for (int i = 2; i <= 6; i++) {
            DUE.same("P3 room", x.leg(1, 2 + i, 0, 0), i);
        }
        DUE.same("P3 not later comes first", x.leg(1, 8, 0, 0), -3);
        DUE.same("P3 no room", x.leg(1, 23, 0, 0), -5);
    }

    private static void where() {
        HullEars x = new HullEars();
        x.boat(0, 10, 20, 5);
        x.leg(0, 2, 3, -1);
        x.leg(0, 5, 0, -2);
        x.leg(0, 23, 1, 1);
        int[][] due = {{0, 10, 20, 0}, {1, 10, 20, 0}, {2, 10, 20, 3}, {3, 13, 19, 3}, {5, 19, 17, 2}, {6, 19, 15, 2},
            {22, 19, -17, 2}, {23, 19, -19, 1}};
        for (int[] d : due) {
            for (int what = 0; what < 3; what++) {
                DUE.same("P4 bell " + d[0] + " what " + what, x.where(0, d[0], what), d[1 + what]);
            }
        }
        DUE.same("P4 bell", x.where(0, 24, 0), -1000);
        DUE.same("P4 bell", x.where(0, -1, 0), -1000);
        DUE.same("P4 what", x.where(0, 0, 3), -1000);
        DUE.same("P4 what", x.where(0, 0, -1), -1000);
        DUE.same("P4 boat", x.where(-1, 0, 0), -1000);
        DUE.same("P4 boat", x.where(2, 0, 0), -1000);
    }

    private static void terms() {
        HullEars x = new HullEars();
        int[] first = {1, 1, 0, 5, 4, 6};
        int[] low = {0, 0, 0, 0, 1, 0};
        int[] high = {20, 9, 3, 9, 23, 40};
        for (int what = 0; what < 6; what++) {
            DUE.same("P5 first", x.terms(what, low[what]), first[what]);
            DUE.same("P5 least", x.terms(what, high[what]), low[what]);
            DUE.same("P5 below", x.terms(what, low[what] - 1), -1);
            DUE.same("P5 above", x.terms(what, high[what] + 1), -1);
            DUE.same("P5 greatest", x.terms(what, low[what]), high[what]);
        }
        DUE.same("P5 what", x.terms(6, 1), -1);
        DUE.same("P5 what", x.terms(-1, 1), -1);
    }

    private static void days() {
        HullEars x = new HullEars();
        DUE.same("P6", x.day(2), 0);
        DUE.same("P6", x.count(16), 2);
        DUE.same("P7", x.layer(0, 200), 100);
        DUE.same("P7", x.layer(0, 0), 200);
        DUE.same("P6", x.day(1), 2);
        DUE.same("P7 of this day", x.layer(0, 7), 100);
        DUE.same("P6 wrong", x.day(3), -1);
        DUE.same("P6 wrong", x.day(-1), -1);
        DUE.same("P6", x.day(2), 1);
        DUE.same("P7 it stayed", x.layer(0, 5), 0);
        DUE.same("P7 wrong", x.layer(-1, 5), -1);
        DUE.same("P7 wrong", x.layer(10, 5), -1);
        DUE.same("P7 wrong", x.layer(5, -1), -1);
        DUE.same("P7 wrong", x.layer(5, 201), -1);
        DUE.same("P7 the deepest", x.layer(9, 5), 100);
        x.day(0);
        DUE.same("P7 wrong", x.layer(10, 5), -1);
        DUE.same("P7 refused", x.status(), -1);
        x.day(1);
        DUE.same("P7 no other day's", x.layer(0, 5), 7);
    }

    private static void reaches() {
        HullEars x = new HullEars();
        // Without bends a ray keeps its slope between top and bottom.
        for (int to = 0; to < 10; to++) {
            DUE.same("P8 range 0", x.reaches(4, to, 0), Math.abs(to - 4) <= 1 ? 1 : 0);
            DUE.same("P8 range 1", x.reaches(4, to, 1), Math.abs(to - 4) <= 3 ? 1 : 0);
        }
        // From 0 in 6 steps: slopes 0, 1, 2 lead to 0, 6, 12 turned back to 6; -1, -2 are turned up to 1, 2.
        int[] inSix = {1, 1, 0, 0, 0, 1, 1, 1, 0, 0};
        for (int to = 0; to < 10; to++) {
            DUE.same("P8 range 6 to " + to, x.reaches(0, to, 6), inSix[to]);
        }
        DUE.same("P8 greatest range", x.reaches(3, 3, 200), 1);
        int[][] wrong = {{-1, 0, 0}, {10, 0, 0}, {0, -1, 0}, {0, 10, 0}, {0, 0, -1}, {0, 0, 201}};
        for (int[] w : wrong) {
            DUE.same("P8 wrong", x.reaches(w[0], w[1], w[2]), -1);
        }
        DUE.same("P8 is no refusal", x.status(), 0);
    }

    private static void bentRays() {
        HullEars x = new HullEars();
        // SLOW grows downwards all the way: every ray is bent downwards, to 2 at last.
        for (int depth = 0; depth < 10; depth++) {
            x.layer(depth, 100 + depth);
        }
        // From 0: slopes become -1, 0, 1, 2, 2 at once: depths 1, 0, 1, 2, 2.
        int[] inOne = {1, 1, 1, 1, 0, 0, 0, 0, 0, 0};
        for (int to = 0; to < 10; to++) {
            DUE.same("P8 bent, to " + to, x.reaches(0, to, 1), inOne[to]);
        }
        // From 9 (its own layer stands for the one below): slopes -1, 0, 1, 2, 2: depths 8, 9, 8, 7, 7.
        int[] up = {0, 0, 0, 0, 0, 0, 1, 1, 1, 1};
        for (int to = 0; to < 10; to++) {
            DUE.same("P8 bent at the bottom, to " + to, x.reaches(9, to, 1), up[to]);
        }
        // Another day has layers of its own.
        x.day(1);
        DUE.same("P8 day", x.reaches(5, 2, 1), 1);
        x.day(0);
        DUE.same("P8 day", x.reaches(5, 2, 1), 0);
        DUE.same("P8 day", x.reaches(5, 8, 1), 1);
        // Layers that grow upwards bend upwards.
        x.day(2);
        x.layer(4, 101);
        DUE.same("P8 up", x.reaches(5, 8, 1), 0);
        DUE.same("P8 up", x.reaches(5, 2, 1), 1);
    }

    private static void bearing() {
        HullEars x = new HullEars();
        for (int d = 0; d < 80; d++) {
            int[] w = d < 20 ? new int[] {d - 10, 10} : d < 40 ? new int[] {10, 30 - d}
                : d < 60 ? new int[] {50 - d, -10} : new int[] {-10, d - 70};
            DUE.same("P9 at " + d, x.bearing(w[0], w[1]), d);
            DUE.same("P9 far at " + d, x.bearing(100 * w[0], 100 * w[1]), d);
            // A little further round, and a little less far round.
            DUE.same("P9 past " + d, x.bearing(50 * w[0] + w[1] / 5, 50 * w[1] - w[0] / 5), d);
            boolean slid = x.bearing(50 * w[0] - w[1] / 5, 50 * w[1] + w[0] / 5) == (d + 79) % 80;
            boolean none = w[1] / 5 == 0 && w[0] / 5 == 0;
            DUE.same("P9 ahead of " + d, slid || none ? 1 : 0, 1);
        }
        DUE.same("P9 edge", x.bearing(1000, -1000), 40);
        DUE.same("P9 edge", x.bearing(-1000, 999), 79);
        DUE.same("P9 edge", x.bearing(-999, 1000), 0);
        DUE.same("P9 none", x.bearing(0, 0), -1);
        DUE.same("P9 none", x.bearing(0, 1001), -1);
        DUE.same("P9 none", x.bearing(5, -1001), -1);
        DUE.same("P9 none", x.bearing(1001, 5), -1);
        DUE.same("P9 none", x.bearing(-1001, 5), -1);
        DUE.same("P9 none", x.bearing(Integer.MIN_VALUE, 5), -1);
    }
}
