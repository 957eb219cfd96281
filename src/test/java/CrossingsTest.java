/** Promises 38 to 41: watches, crossings, pairings, ghosts. */
public final class CrossingsTest {
    private static final Due DUE = new Due("CrossingsTest");

    public static void main(String[] args) {
        watches();
        crossings();
        pairings();
        edgesOfTheSea();
        sixAtMost();
        apartIsNotAsked();
        DUE.finish();
    }

    private static void watches() {
        HullEars x = new HullEars();
        x.boat(1, 31, 31, 5);
        x.wreck(0, 9);
        int[] bells = {0, 3, 4, 7, 8, 23};
        for (int bell : bells) {
            x.heard(0, bell, 10);
            x.heard(1, bell, 10);
            x.echo(0, bell, 9);
        }
        x.echo(0, 23, 50);
        int[] many = {2, 2, 1, 0, 0, 1};
        for (int w = 0; w < 6; w++) {
            DUE.same("P38 heard", x.watch(w, 0), 2 * many[w]);
            DUE.same("P38 new", x.watch(w, 1), many[w]);
            DUE.same("P38 echoes", x.watch(w, 2), many[w] + (w == 5 ? 1 : 0));
            DUE.same("P38 new echoes", x.watch(w, 3), w == 5 ? 1 : 0);
        }
        DUE.same("P38", x.watch(6, 0), -1);
        DUE.same("P38", x.watch(-1, 0), -1);
        DUE.same("P38", x.watch(0, 4), -1);
        DUE.same("P38", x.watch(0, -1), -1);
    }

    /** Boats in two corners; 11 .. 19 of the one cross 1 .. 9 of the other. */
    private static HullEars corners() {
        HullEars x = new HullEars();
        x.boat(1, 31, 0, 5);
        x.terms(0, 0);
        return x;
    }

    private static int placesBoth(HullEars x, int one, int other) {
        int found = 0;
        for (int e = 0; e < 32; e++) {
            for (int n = 0; n < 32; n++) {
                if (x.bearing(e, n) == one && x.bearing(e - 31, n) == other) found++;
            }
        }
        return found;
    }

    private static void crossings() {
        HullEars x = corners();
        x.heard(0, 5, 20);
        x.heard(0, 5, 15);
        x.heard(1, 5, 4);
        x.heard(1, 5, 60);
        x.heard(0, 6, 20);
        DUE.same("P39", x.cross(5, 0, 0), placesBoth(x, 20, 4));
        DUE.same("P39", x.cross(5, 1, 0), placesBoth(x, 15, 4));
        DUE.same("P39 never", x.cross(5, 0, 1), 0);
        DUE.same("P39 no pair", x.cross(5, 2, 0), -1);
        DUE.same("P39 no pair", x.cross(5, 0, 2), -1);
        DUE.same("P39 no pair", x.cross(5, -1, 0), -1);
        DUE.same("P39 no pair", x.cross(5, 0, -1), -1);
        DUE.same("P39 no pair", x.cross(6, 0, 0), -1);
        DUE.same("P39 no bell", x.cross(24, 0, 0), -1);
        DUE.same("P39 no bell", x.cross(-1, 0, 0), -1);
        // A known one is not counted: the others move up.
        x.wreck(9, 9);
        DUE.same("P39 new ones alone", x.cross(5, 0, 0), placesBoth(x, 15, 4));
        DUE.same("P39 new ones alone", x.cross(5, 1, 0), -1);
        // Sound must reach.
        x.terms(3, 9);
        x.boat(0, 0, 0, 0);
        int reached = 0;
        for (int e = 0; e < 32; e++) {
            for (int n = 0; n < 32; n++) {
                boolean fits = x.bearing(e, n) == 15 && x.bearing(e - 31, n) == 4;
                if (fits) reached += x.reaches(9, 0, Math.max(e, n)) * x.reaches(9, 5, Math.max(31 - e, n));
            }
        }
        DUE.same("P39 depth", x.cross(5, 0, 0), reached);
        // An echo is none of them.
        x.echo(0, 5, 40);
        DUE.same("P39 echoes", x.cross(5, 1, 0), -1);
    }

    private static void pairings() {
        HullEars x = corners();
        DUE.same("P40 none at all", x.pairings(0), 0);
        DUE.same("P40 no bell", x.pairings(24), -1);
        DUE.same("P40 no bell", x.pairings(-1), -1);
        x.heard(1, 0, 79);
        DUE.same("P40 not as many", x.pairings(0), 0);
        DUE.same("P41 no pair", x.ghost(0, 0, 0), -1);
        x.heard(0, 0, 20);
        DUE.same("P41 fresh", x.ghost(0, 0, 0), 0);
        DUE.same("P40 one", x.pairings(0), 1);
        DUE.same("P41 no pair", x.ghost(0, 1, 0), -1);
        DUE.same("P41 no pair", x.ghost(0, 0, 1), -1);
        x.heard(0, 0, 16);
        DUE.same("P40 not as many", x.pairings(0), 0);
        DUE.same("P41 no pairing", x.ghost(0, 0, 0), 1);
        x.heard(1, 0, 4);
        // All four cross.
        DUE.same("P40 two", x.pairings(0), 2);
        for (int i = 0; i < 4; i++) {
            DUE.same("P41", x.ghost(0, i / 2, i % 2), 0);
        }
        // One that looks away leaves none; one for which only one is left leaves one.
        x.heard(0, 0, 27);
        x.heard(1, 0, 30);
        DUE.same("P40 looks out of the sea", x.pairings(0), 0);
        DUE.same("P41", x.ghost(0, 2, 2), 1);
        DUE.same("P41 no pair", x.ghost(0, 3, 0), -1);
        DUE.same("P41 no pair", x.ghost(0, 0, 3), -1);
        DUE.same("P41 no pair", x.ghost(0, -1, 0), -1);
        DUE.same("P41 no pair", x.ghost(1, 0, 0), -1);
        DUE.same("P41 no bell", x.ghost(24, 0, 0), -1);
        HullEars y = corners();
        y.heard(0, 9, 12);
        y.heard(0, 9, 29);
        y.heard(1, 9, 71);
        y.heard(1, 9, 79);
        // 12 goes steeply up, 71 hardly rises: both meet near the other boat's sides.
        int[][] due = {{placesBoth(y, 12, 71), placesBoth(y, 12, 79)}, {placesBoth(y, 29, 71), placesBoth(y, 29, 79)}};
        int straight = due[0][0] > 0 && due[1][1] > 0 ? 1 : 0;
        int crossed = due[0][1] > 0 && due[1][0] > 0 ? 1 : 0;
        DUE.same("P40", y.pairings(9), straight + crossed);
        DUE.same("P41", y.ghost(9, 0, 0), 1 - straight);
        DUE.same("P41", y.ghost(9, 0, 1), 1 - crossed);
        DUE.same("P41", y.ghost(9, 1, 0), 1 - crossed);
        DUE.same("P41", y.ghost(9, 1, 1), 1 - straight);
        ghosts();
    }

    /** 0 meets the other's 0 and 1, 1 meets 0 alone: so 0 with 0 is a ghost. */
    private static void ghosts() {
        HullEars x = corners();
        x.heard(0, 2, 20);
        x.heard(0, 2, 29);
        x.heard(1, 2, 71);
        x.heard(1, 2, 0);
        DUE.same("cross", x.cross(2, 0, 0) > 0 ? 1 : 0, placesBoth(x, 20, 71) > 0 ? 1 : 0);
        boolean[] meets = {placesBoth(x, 20, 71) > 0, placesBoth(x, 20, 0) > 0, placesBoth(x, 29, 71) > 0,
            placesBoth(x, 29, 0) > 0};
        int straight = meets[0] && meets[3] ? 1 : 0;
        int crossed = meets[1] && meets[2] ? 1 : 0;
        DUE.same("P40", x.pairings(2), straight + crossed);
        DUE.same("P41", x.ghost(2, 0, 0), 1 - straight);
        DUE.same("P41", x.ghost(2, 1, 0), 1 - crossed);
    }

    private static void edgesOfTheSea() {
        HullEars x = corners();
        x.heard(0, 1, 10);
        x.heard(1, 1, 79);
        // Straight up from (0, 0), and to (0, 28 .. 30) from (31, 0).
        DUE.same("P39 east 0", x.cross(1, 0, 0), placesBoth(x, 10, 79));
        int atEastNone = 0;
        for (int n = 0; n < 32; n++) {
            if (x.bearing(0, n) == 10 && x.bearing(-31, n) == 79) atEastNone++;
        }
        DUE.same("P39 east 0 has some", atEastNone > 0 ? 1 : 0, 1);
        DUE.same("P40 they meet", x.pairings(1), 1);
        x.boat(0, 31, 0, 5);
        x.boat(1, 0, 0, 5);
        DUE.same("P40 they look apart", x.pairings(1), 0);
        DUE.same("P41 they look apart", x.ghost(1, 0, 0), 1);
        // Boat 1 hears something, boat 0 nothing.
        x.heard(1, 2, 20);
        DUE.same("P40 one alone", x.pairings(2), 0);
        DUE.same("P41 one alone", x.ghost(2, 0, 0), -1);
    }

    private static void sixAtMost() {
        HullEars x = corners();
        x.terms(0, 20);
        for (int i = 0; i < 6; i++) {
            x.heard(0, 0, 20);
            x.heard(1, 0, 0);
        }
        DUE.same("P40 all ways", x.pairings(0), 720);
        DUE.same("P41", x.ghost(0, 5, 0), 0);
        x.heard(0, 0, 20);
        DUE.same("P40 not as many", x.pairings(0), 0);
        x.heard(1, 0, 0);
        DUE.same("P40 more than 6", x.pairings(0), 0);
        DUE.same("P41 more than 6", x.ghost(0, 6, 6), 1);
        DUE.same("P41 more than 6", x.ghost(0, 0, 0), 1);
        DUE.same("P41 no pair", x.ghost(0, 7, 0), -1);
        DUE.same("P39 more than 6", x.cross(0, 6, 6) > 0 ? 1 : 0, 1);
    }

    private static void apartIsNotAsked() {
        HullEars x = corners();
        x.terms(2, 3);
        x.heard(0, 5, 20);
        x.heard(1, 6, 0);
        DUE.same("P39 apart", x.cross(5, 0, 0), -1);
        DUE.same("P40 apart", x.pairings(5), 0);
    }
}
