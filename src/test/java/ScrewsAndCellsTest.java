/** Promises 42 to 44 and 47 to 49: beats and screws, cells and looks. */
public final class ScrewsAndCellsTest {
    private static final Due DUE = new Due("ScrewsAndCellsTest");

    public static void main(String[] args) {
        beats();
        screws();
        cells();
        chances();
        alikeChances();
        withoutWeights();
        sixOfSix();
        DUE.finish();
    }

    private static void beats() {
        HullEars x = new HullEars();
        DUE.same("P43 without", x.screws(), 0);
        DUE.same("P44 without", x.screw(0, 0), -1);
        DUE.same("P42 wrong", x.beat(0), -1);
        DUE.same("P42 wrong", x.beat(3001), -1);
        for (int i = 1; i <= 6; i++) {
            DUE.same("P42", x.beat(i % 2 == 0 ? 1 : 3000), i);
        }
        DUE.same("P42 no room", x.beat(5), -5);
        DUE.same("P42 number first", x.beat(0), -1);
        DUE.same("P52", x.count(4), 6);
    }

    private static void screws() {
        HullEars x = new HullEars();
        x.beat(2);
        // 1 turn of 3 blades: 3 is one off.
        DUE.same("P43", x.screws(), 1);
        DUE.same("P44", x.screw(0, 0), 1);
        DUE.same("P44", x.screw(0, 1), 3);
        x.beat(22);
        DUE.same("P43 21 and one off", x.screws(), 1);
        x.beat(23);
        DUE.same("P43 two off", x.screws(), 0);
        HullEars y = new HullEars();
        y.beat(2100);
        // 2099, 2100, 2101 by 7: 300; by 6: 350 is too many.
        DUE.same("P43", y.screws(), 1);
        DUE.same("P44", y.screw(0, 0), 300);
        DUE.same("P44", y.screw(0, 1), 7);
        HullEars z = new HullEars();
        z.beat(60);
        // By 3: 20 (60); by 4: 15; by 5: 12; by 6: 10; by 7: none of 59, 60, 61.
        int[][] due = {{10, 6}, {12, 5}, {15, 4}, {20, 3}};
        DUE.same("P43", z.screws(), 4);
        for (int i = 0; i < 4; i++) {
            DUE.same("P44 order", z.screw(i, 0), due[i][0]);
            DUE.same("P44 order", z.screw(i, 1), due[i][1]);
        }
        DUE.same("P44", z.screw(4, 0), -1);
        DUE.same("P44", z.screw(-1, 0), -1);
        DUE.same("P44", z.screw(0, 2), -1);
        DUE.same("P44", z.screw(0, -1), -1);
        z.beat(44);
        // Near 44: 45 = 3 * 15 one off; 10, 12, 20 have none of 43 .. 45.
        DUE.same("P43", z.screws(), 1);
        DUE.same("P44", z.screw(0, 0), 15);
        z.beat(14);
        DUE.same("P43 once", z.screws(), 1);
        z.beat(13);
        DUE.same("P43 less than once", z.screws(), 0);
        // One turn can have several blades.
        HullEars w = new HullEars();
        w.beat(4);
        DUE.same("P43", w.screws(), 3);
        DUE.same("P44", w.screw(0, 1), 3);
        DUE.same("P44", w.screw(1, 1), 4);
        DUE.same("P44", w.screw(2, 1), 5);
    }

    private static void chance(HullEars x, int looks, long upper, long lower, int... at) {
        DUE.same("P48 upper of " + looks, x.search(looks, 0), upper);
        DUE.same("P48 lower of " + looks, x.search(looks, 1), lower);
        for (int cell = 0; cell < at.length; cell++) {
            DUE.same("P49 of " + looks + " at " + cell, x.looks(looks, cell), at[cell]);
        }
    }

    private static void cells() {
        HullEars x = new HullEars();
        for (int i = 0; i < 6; i++) {
            DUE.same("P47", x.cell(100, i * 20), i);
        }
        DUE.same("P47 no room", x.cell(0, 0), -5);
        int[][] wrong = {{-1, 0}, {101, 0}, {0, -1}, {0, 101}};
        for (int[] w : wrong) {
            DUE.same("P47 wrong", x.cell(w[0], w[1]), -1);
        }
        DUE.same("P48", x.search(-1, 0), -1);
        DUE.same("P48", x.search(7, 0), -1);
        DUE.same("P48", x.search(0, 2), -1);
        DUE.same("P48", x.search(0, -1), -1);
        DUE.same("P49", x.looks(-1, 0), -1);
        DUE.same("P49", x.looks(7, 0), -1);
        DUE.same("P49", x.looks(0, 6), -1);
        DUE.same("P49", x.looks(0, -1), -1);
        DUE.same("P52", x.count(6), 6);
    }

    private static void chances() {
        HullEars x = new HullEars();
        x.cell(30, 50);
        x.cell(70, 10);
        chance(x, 0, 0, 1, 0, 0);
        // 15 against 7.
        chance(x, 1, 3, 20, 1, 0);
        // 7.5 against 7.
        chance(x, 2, 9, 40, 2, 0);
        // 3.75 against 7.
        chance(x, 3, 59, 200, 2, 1);
        // 3.75 against 6.3.
        chance(x, 4, 179, 500, 2, 2);
    }

    private static void alikeChances() {
        HullEars x = new HullEars();
        x.cell(50, 40);
        x.cell(50, 40);
        x.cell(20, 100);
        // All of one look: 20, 20, 20. The first one has most looks.
        chance(x, 1, 1, 6, 1, 0, 0);
        chance(x, 2, 1, 3, 1, 1, 0);
        chance(x, 3, 1, 2, 1, 1, 1);
        chance(x, 4, 3, 5, 2, 1, 1);
        // Nothing more to find: the first cell has what is left.
        HullEars y = new HullEars();
        y.cell(10, 0);
        y.cell(90, 100);
        chance(y, 5, 9, 10, 4, 1);
    }

    private static void withoutWeights() {
        HullEars x = new HullEars();
        chance(x, 0, 0, 1);
        chance(x, 6, 0, 1);
        DUE.same("P49 no cell", x.looks(6, 0), -1);
        x.cell(0, 100);
        x.cell(0, 50);
        chance(x, 6, 0, 1, 6, 0);
        x.cell(3, 0);
        chance(x, 2, 0, 1, 2, 0, 0);
    }

    private static void sixOfSix() {
        HullEars x = new HullEars();
        x.cell(97, 1);
        // 1 less 0.99 to the sixth.
        chance(x, 6, 1000000000000L - 941480149401L, 1000000000000L, 6);
        HullEars z = new HullEars();
        z.cell(1, 1);
        chance(z, 6, 58519850599L, 1000000000000L, 6);
        HullEars y = new HullEars();
        for (int i = 0; i < 6; i++) {
            y.cell(100 - i, 100);
        }
        DUE.same("P49 first of all", y.looks(1, 0), 1);
        chance(y, 6, 1, 1, 1, 1, 1, 1, 1, 1);
        chance(y, 5, 98, 117, 1, 1, 1, 1, 1, 0);
    }
}
