/** Promises 30 to 34: offers, what they part, by whom they are heard. */
public final class OffersTest {
    private static final Due DUE = new Due("OffersTest");

    public static void main(String[] args) {
        offers();
        parts();
        ownPlace();
        firstDirection();
        turn();
        heardBy();
        silent();
        wrong();
        noRunFits();
        DUE.finish();
    }

    private static void offers() {
        HullEars x = new HullEars();
        DUE.same("P30 wrong", x.offer(4, 0), -1);
        DUE.same("P30 wrong", x.offer(-4, 0), -1);
        DUE.same("P30 wrong", x.offer(0, 4), -1);
        DUE.same("P30 wrong", x.offer(0, -4), -1);
        DUE.same("P32 none", x.turn(0, 1), -1);
        DUE.same("P34 none", x.silent(0, 1, 60000), -1);
        for (int i = 0; i < 8; i++) {
            DUE.same("P30", x.offer(3, -3), i);
        }
        DUE.same("P30 no room", x.offer(0, 0), -5);
        DUE.same("P30 number first", x.offer(0, 4), -1);
        DUE.same("P52", x.count(3), 8);
    }

    /** A sea in which three runs fit: at bell 4 all at (15, 15), from 19, 23, 27 each, one behind the other. */
    private static HullEars three() {
        HullEars x = new HullEars();
        x.boat(0, 15, 15, 5);
        x.terms(0, 0);
        x.terms(1, 0);
        x.heard(0, 0, 20);
        x.echo(0, 4, 0);
        return x;
    }

    private static void parts() {
        HullEars x = three();
        DUE.same("three", x.runs(), 3);
        x.offer(0, 0);
        x.offer(1, 0);
        x.offer(0, -3);
        // At bell 5 they are at 14, 13, 12 each: from (15, 15) all in direction 60.
        DUE.same("P31", x.parts(4, 1, 0), 3);
        // From (16, 15): (-2, -1) 65, (-3, -2) 63, (-4, -3) 62.
        DUE.same("P31", x.parts(4, 1, 1), 1);
        // At bell 4, all are at (15, 15), whatever is offered.
        DUE.same("P31 all at one", x.parts(3, 1, 1), 3);
        DUE.same("P31 by its bell", x.parts(2, 2, 2), 3);
        // From (15, 6) at bell 7: 12, 9, 6 each: (-3, 6), (-6, 3), (-9, 0).
        DUE.same("P31", x.parts(4, 3, 2), 1);
        DUE.same("P31 the leg it has does not count", x.leg(0, 5, 3, 3), 1);
        DUE.same("P31", x.parts(4, 3, 2), 1);
        // Behind it, it does: at bell 7 the boat is at (21, 21), runs at bell 8 at 11, 7, 3 each: all 60.
        DUE.same("P31", x.parts(7, 1, 0), 3);
        DUE.same("P31 latest", x.parts(22, 1, 0), 3);
    }

    private static void ownPlace() {
        HullEars x = three();
        x.offer(-1, -1);
        x.offer(-2, -2);
        // From (14, 14) at bell 5: one is there, two are beyond it.
        DUE.same("P31 own place", x.parts(4, 1, 0), 2);
        // From (13, 13): one on each side of one that is there.
        DUE.same("P31 own place", x.parts(4, 1, 1), 1);
    }

    /** The first direction has its group, too. */
    private static void firstDirection() {
        HullEars x = new HullEars();
        x.boat(0, 31, 0, 5);
        x.terms(0, 0);
        x.heard(0, 0, 0);
        x.heard(0, 9, 0);
        x.offer(0, 0);
        // All that is at direction 0 at bells 0 and 9 is there at all bells between.
        DUE.same("P31", x.parts(3, 2, 0), x.runs());
    }

    private static void turn() {
        HullEars x = three();
        x.offer(0, 0);
        x.offer(-1, -1);
        DUE.same("P32 the fewest", x.turn(4, 1), 1);
        x.offer(1, 0);
        DUE.same("P32 the fewest", x.turn(4, 1), 2);
        x.offer(-2, -2);
        DUE.same("P32 alike: the lower one", x.turn(4, 1), 2);
        DUE.same("P32 all alike", x.turn(3, 1), 0);
        DUE.same("P32 the law is not asked", Due.law(x, "noise 9"), 1);
        DUE.same("P32", x.turn(4, 1), 2);
    }

    private static void heardBy() {
        HullEars x = three();
        x.offer(0, 0);
        x.offer(-3, 2);
        x.offer(2, -3);
        DUE.same("P33 without a law", x.heardBy(4, 1, 0), 3);
        Due.law(x, "noise 5;loss range;ear 2 if speed<3;ear 4 if bell=9");
        // At bell 5 from (15, 15) they are in ranges 1, 2, 3; at bell 6 in 2, 4, 6.
        DUE.same("P33", x.heardBy(4, 1, 0), 3);
        DUE.same("P33", x.heardBy(4, 2, 0), 1);
        // At bell 9 in ranges 5, 10, 15.
        DUE.same("P33 bell and ahead", x.heardBy(4, 5, 0), 0);
        // From (9, 19) with speed 3, ear 0: runs at 13, 11, 9 each: 6, 8, 10 off.
        DUE.same("P33 the offer's speed", x.heardBy(4, 2, 1), 0);
        Due.law(x, "noise 8;loss range;ear 1 if speed<3");
        DUE.same("P33 the offer's speed", x.heardBy(4, 2, 1), 2);
        x.leg(0, 0, 0, 0);
        Due.law(x, "noise depth*100+boat*10+speed;ear 502");
        DUE.same("P33 speed 0", x.heardBy(4, 1, 0), 0);
        DUE.same("P33 speed 3, depth 5", x.heardBy(4, 1, 1), 3);
        DUE.same("P33 speed 3, depth 5", x.heardBy(4, 1, 2), 3);
    }

    private static void silent() {
        HullEars x = three();
        x.offer(1, 0);
        x.offer(-1, -1);
        x.offer(0, 0);
        Due.law(x, "noise 1 if range<[3+speed];ear 1");
        // Speed 1: heard in ranges below 4; speed 0: below 3. At bell 5: from (16, 15) ranges 2, 3, 4;
        // from (14, 14) 0, 1, 2; from (15, 15) 1, 2, 3.
        DUE.same("P33", x.heardBy(4, 1, 0), 2);
        DUE.same("P33", x.heardBy(4, 1, 1), 3);
        DUE.same("P33", x.heardBy(4, 1, 2), 2);
        DUE.same("P34", x.silent(4, 1, 2), 0);
        DUE.same("P34", x.silent(4, 1, 1), -1);
        DUE.same("P34", x.silent(4, 1, 60000), 0);
        Due.law(x, "noise 1 if speed=1 and range<4;ear 1");
        DUE.same("P34 the quiet one", x.silent(4, 1, 1), 2);
        DUE.same("P34 all may", x.silent(4, 1, 2), 0);
        DUE.same("P34 none", x.silent(4, 1, 0), 2);
        DUE.same("P34 no turn is asked", x.turn(4, 1), 0);
        // Heard by as many as may hear, and by one more.
        Due.law(x, "noise 1 if boat=0;ear 1");
        DUE.same("P34", x.silent(4, 1, 3), 0);
        DUE.same("P34", x.silent(4, 1, 2), -1);
        x.heard(0, 3, 60);
        DUE.same("P34 fresh", x.silent(4, 1, 0), 0);
    }

    private static void wrong() {
        HullEars x = new HullEars();
        x.offer(0, 0);
        int[][] wrong = {{-1, 1}, {24, 1}, {0, 0}, {0, 10}, {0, -1}, {15, 9}, {22, 2}, {23, 1},
            {Integer.MAX_VALUE, 1}, {1, Integer.MAX_VALUE}};
        for (int[] w : wrong) {
            DUE.same("P31 wrong", x.parts(w[0], w[1], 0), -1);
            DUE.same("P32 wrong", x.turn(w[0], w[1]), -1);
            DUE.same("P33 wrong", x.heardBy(w[0], w[1], 0), -1);
            DUE.same("P34 wrong", x.silent(w[0], w[1], 60000), -1);
        }
        DUE.same("P32 edge", x.turn(14, 9), 0);
        DUE.same("P32 edge", x.turn(22, 1), 0);
        DUE.same("P31 no offer", x.parts(0, 1, 1), -1);
        DUE.same("P31 no offer", x.parts(0, 1, -1), -1);
        DUE.same("P33 no offer", x.heardBy(0, 1, 1), -1);
        DUE.same("P33 no offer", x.heardBy(0, 1, -1), -1);
        DUE.same("P34 most", x.silent(0, 1, -1), -1);
        DUE.same("P34 most", x.silent(0, 1, 60001), -1);
        DUE.same("P34 most", x.silent(0, 1, 60000), 0);
        DUE.same("P34 most", x.silent(0, 1, 50175), -1);
    }

    private static void noRunFits() {
        HullEars x = new HullEars();
        x.heard(0, 0, 10);
        x.heard(0, 0, 50);
        x.offer(1, 1);
        x.offer(2, 2);
        DUE.same("P31", x.parts(0, 1, 1), 0);
        DUE.same("P32", x.turn(0, 1), 0);
        DUE.same("P33", x.heardBy(0, 1, 0), 0);
        DUE.same("P34", x.silent(0, 1, 0), 0);
    }
}
