/** Promises 19, 20, 45, 46: the law, its faults, what it tells, who hears. */
public final class LawTest {
    private static final Due DUE = new Due("LawTest");

    public static void main(String[] args) {
        clauses();
        faults();
        limits();
        aFaultChangesNothing();
        cutTape();
        manyLaws();
        words();
        reckoning();
        broken();
        tests();
        lastThatHolds();
        wrongQuestions();
        hears();
        DUE.finish();
    }

    /** What a sum tells as noise, of boat 0 at bell 3 with speed 2, depth 7, in range 11. */
    private static int told(String sum) {
        HullEars x = new HullEars();
        x.boat(0, 1, 1, 7);
        x.leg(0, 1, -2, 1);
        int clauses = Due.law(x, "noise 77;noise " + sum);
        return clauses == 2 ? x.tells(0, 3, 11, 0) : -12345;
    }

    private static void sum(String sum, int due) {
        DUE.same("P45 " + sum, told(sum), due);
    }

    private static void test(String test, int due) {
        DUE.same("P45 " + test, told("1 if " + test), due == 1 ? 1 : 77);
    }

    private static void fault(String text, int due) {
        HullEars x = new HullEars();
        DUE.same("P19 " + text, Due.law(x, text), -6);
        DUE.same("P20 " + text, x.fault(), due);
        DUE.same("P19 no law from " + text, x.count(5), 0);
    }

    private static void good(String text, int clauses) {
        HullEars x = new HullEars();
        DUE.same("P19 " + text, Due.law(x, text), clauses);
        DUE.same("P20 " + text, x.fault(), -1);
        DUE.same("P52 " + text, x.count(5), clauses);
    }

    private static void clauses() {
        good("noise 1", 1);
        good("  ear   range  ", 1);
        good("noise1;loss2;ear3", 3);
        good("noise 10if 1<2", 1);
        good("noise [[1]]*[2+3]if not not(1=1 and(2=2))or 3>4", 1);
        good("loss 0001000", 1);
        good("noise " + "0".repeat(390) + "5", 1);
        good("noise 1 if " + "not ".repeat(90) + "1=1", 1);
    }

    private static void faults() {
        fault("", 0);
        fault("    ", 4);
        fault("noise", 5);
        fault("noise  ", 7);
        fault("noises 1", 0);
        fault("Noise 1", 0);
        fault("noise Speed", 6);
        fault("noise 1;", 8);
        fault("noise 1;;ear 1", 8);
        fault(";noise 1", 0);
        fault("noise 1 ear 2", 8);
        fault("noise 1 2", 8);
        fault("noise 1+", 8);
        fault("noise -1", 6);
        fault("noise 1*/2", 8);
        fault("noise (1)", 6);
        fault("noise [1", 8);
        fault("noise [1)", 8);
        fault("noise []", 7);
        fault("noise 1]", 7);
        fault("noise if 1=1", 6);
        fault("noise 1 if", 10);
        fault("noise 1 if 1", 12);
        fault("noise 1 if 1<", 13);
        fault("noise 1 if 1<=2", 13);
        fault("noise 1 if 1=2=3", 14);
        fault("noise 1 if (1)=2", 13);
        fault("noise 1 if (1=2", 15);
        fault("noise 1 if (1=2]", 15);
        fault("noise 1 if [1=2]", 13);
        fault("noise 1 if not", 14);
        fault("noise 1 if 1=1 and", 18);
        fault("noise 1 if 1=1 or or 1=1", 18);
        fault("noise 1 if 1=1 if 1=1", 15);
        fault("noise 1&2", 7);
        fault("noise 1 if 1&lt;2", 12);
        fault("noise 1\u0000", 7);
        fault("noise\t1", 5);
        fault("noise 1\u00e9", 7);
        fault("noise 1001", 6);
        fault("noise 10000", 6);
        fault("noisez 1", 0);
        fault("poise 1", 0);
        fault(" ".repeat(400), 400);
        fault("noise 1 if" + " ".repeat(390), 400);
        fault("noise 99999999999999999999", 6);
        fault("noise speedy", 6);
        fault("noise speedbell", 6);
        fault("noise 1 i f", 8);
        fault("noise 1 iff 1=1", 8);
    }

    private static void limits() {
        String twelve = "ear 1" + ";ear 1".repeat(11);
        good(twelve, 12);
        fault(twelve + ";", twelve.length() + 1);
        fault(twelve + ";ear 1", twelve.length() + 1);
        fault(twelve + "; 5", twelve.length() + 2);
        fault(twelve + " x;", twelve.length() + 1);
        String fifty = "ear 1" + "+bell".repeat(49);
        good(fifty, 1);
        fault(fifty + "+boat", fifty.length() + 1);
        fault(fifty + " * [3]", fifty.length() + 4);
        fault(fifty + ";ear 7", fifty.length() + 5);
        String spread = "ear 1" + ";ear 1+1*1-1/1".repeat(9) + ";ear 1+1+1";
        good(spread, 11);
        fault(spread + " if 1=1", spread.length() + 6);
        String eight = "ear " + "[".repeat(8) + "1" + "]".repeat(8);
        good(eight, 1);
        good(eight + "+[1]", 1);
        fault("ear " + "[".repeat(9) + "1", 12);
        String mixed = "ear 1 if ((((([[[1]]]=1)))))";
        good(mixed, 1);
        fault("ear 1 if ((((([[[[1", 17);
        fault("ear 1 if ((((((((([1", 17);
        good("ear 1 if ((((((((1=1))))))))and((((((((1=1))))))))", 1);
    }

    private static void aFaultChangesNothing() {
        HullEars x = new HullEars();
        Due.law(x, "noise 5;ear 6");
        DUE.same("P19", Due.law(x, "noise 7;ear"), -6);
        DUE.same("P19 tape is empty", x.count(8), 0);
        DUE.same("P19 stays", x.count(5), 2);
        DUE.same("P19 stays", x.tells(0, 0, 0, 0), 5);
        DUE.same("P20", x.fault(), 11);
        DUE.same("P53", x.status(), -6);
        DUE.same("P52", x.count(13), 1);
        DUE.same("P19", Due.law(x, "loss 9"), 1);
        DUE.same("P20 of the latest", x.fault(), -1);
        DUE.same("P19 the other one is gone", x.tells(0, 0, 0, 0), 0);
        DUE.same("P19", x.tells(0, 0, 0, 1), 9);
        DUE.same("P19 empty tape", x.law(), -6);
        DUE.same("P20 empty tape", x.fault(), 0);
    }

    /** What lay on the tape before is not read. */
    private static void cutTape() {
        HullEars x = new HullEars();
        // "nois", "e 12", blanks.
        x.feed(0x6e6f6973, 0x65203132, 0x20202020, 0x20202020, 0x20202020);
        x.end(5);
        DUE.same("P16 cut", x.law(), -6);
        DUE.same("P20 cut", x.fault(), 5);
        x.feed(0x6e6f6973, 0x65203132, 0x20202020, 0x20202020, 0x20202020);
        x.end(7);
        DUE.same("P16 cut", x.law(), 1);
        DUE.same("P45 cut", x.tells(0, 0, 0, 0), 1);
        x.feed(0x6e6f6973, 0x65203132, 0x20202020, 0x20202020, 0x20202020);
        x.end(9);
        DUE.same("P19 blanks behind", x.law(), 1);
        DUE.same("P45", x.tells(0, 0, 0, 0), 12);
    }

    private static void manyLaws() {
        HullEars x = new HullEars();
        for (int i = 0; i < 50; i++) {
            DUE.same("P19 again", Due.law(x, "noise 1" + "+1".repeat(40 + i % 9)), 1);
            DUE.same("P45 again", x.tells(0, 0, 0, 0), 41 + i % 9);
            Due.law(x, "noise 1" + "+1".repeat(45) + "+");
        }
    }

    private static void words() {
        sum("speed", 2);
        sum("depth", 7);
        sum("range", 11);
        sum("bell", 3);
        sum("boat", 0);
        HullEars x = new HullEars();
        x.boat(1, 1, 1, 4);
        x.leg(1, 9, 1, -3);
        Due.law(x, "noise boat*1000+speed*100+depth*10+bell-range");
        DUE.same("P45 boat 1", x.tells(1, 9, 0, 0), 1000 + 300 + 40 + 9);
        DUE.same("P45 ahead of its leg", x.tells(1, 8, 200, 0), 1000 + 40 + 8 - 200);
        DUE.same("P45 boat 0", x.tells(0, 9, 1, 0), 50 + 9 - 1);
    }

    private static void reckoning() {
        sum("1+2*3", 7);
        sum("[1+2]*3", 9);
        sum("10-3-2", 5);
        sum("10-[3-2]", 9);
        sum("100/7/2", 7);
        sum("100/[7/2]", 33);
        sum("2*7/4", 3);
        sum("7/4*2", 2);
        sum("[0-7]/2", -3);
        sum("7/[0-2]", -3);
        sum("[0-7]/[0-2]", 3);
        sum("1000*1000*1000", 1000000000);
        sum("0-1000*1000*1000", -1000000000);
        sum("007", 7);
    }

    private static void broken() {
        sum("1/0", 77);
        sum("0/[speed-2]", 77);
        sum("1000*1000*1000+1", 77);
        sum("1000*1000*1000+1-1", 77);
        sum("0-1000*1000*1000-1", 77);
        sum("1000*1000*1000*1000*1000*1000*1000*1000/1000", 77);
        sum("1 if 1/0=1", 77);
        sum("1 if not 1/0=1", 77);
        sum("1/0 if 1=1", 77);
        sum("1/0 if 1=2", 77);
    }

    private static void tests() {
        test("1<2", 1);
        test("2<2", 0);
        test("3>2", 1);
        test("2>2", 0);
        test("2=2", 1);
        test("1=2", 0);
        test("not 1=2", 1);
        test("not 1<2", 0);
        test("not 2>1", 0);
        test("not not 1=2", 0);
        test("not not not 1=2", 1);
        // "and" binds more than "or", "not" more than both.
        test("1=1 or 1=1 and 1=2", 1);
        test("(1=1 or 1=1) and 1=2", 0);
        test("not 1=1 or 1=1", 1);
        test("not (1=1 or 1=1)", 0);
        test("not 1=2 and 1=2", 0);
        test("not(1=2 and 1=2)", 1);
        // What stands behind is asked only if it can matter.
        test("1=1 or 1/0=1", 1);
        test("1=2 or 1/0=1", 0);
        test("1/0=1 or 1=1", 0);
        test("not (1=2 and 1/0=1)", 1);
        test("not (1=1 and 1/0=1)", 0);
        test("1=2 and 1/0=1 or 1=1", 1);
        test("1=1 or 1=1 and 1/0=1 or 1/0=1", 1);
        test("1=2 or 1=1 or 1/0=1", 1);
        test("1=1 and 2=2 and 3=3", 1);
        test("1=1 and 2=1 and 3=3", 0);
    }

    private static void lastThatHolds() {
        HullEars x = new HullEars();
        Due.law(x, "noise 1;loss 2;noise 3 if range>5;noise 4 if range>9;ear 6 if bell=2;noise 5/0");
        DUE.same("P45", x.tells(0, 0, 5, 0), 1);
        DUE.same("P45", x.tells(0, 0, 6, 0), 3);
        DUE.same("P45", x.tells(0, 0, 10, 0), 4);
        DUE.same("P45", x.tells(0, 0, 10, 1), 2);
        DUE.same("P45", x.tells(0, 1, 10, 2), 0);
        DUE.same("P45", x.tells(1, 2, 10, 2), 6);
    }

    private static void wrongQuestions() {
        HullEars x = new HullEars();
        DUE.same("P45 no law", x.tells(0, 0, 0, 0), 0);
        DUE.same("P45 edges", x.tells(1, 23, 200, 2), 0);
        int[][] wrong = {{-1, 0, 0, 0}, {2, 0, 0, 0}, {0, -1, 0, 0}, {0, 24, 0, 0}, {0, 0, -1, 0}, {0, 0, 201, 0},
            {0, 0, 0, -1}, {0, 0, 0, 3}};
        for (int[] w : wrong) {
            DUE.same("P45 wrong", x.tells(w[0], w[1], w[2], w[3]), -10000000);
        }
        DUE.same("P46 wrong", x.hears(2, 0), -1);
        DUE.same("P46 wrong", x.hears(-1, 0), -1);
        DUE.same("P46 wrong", x.hears(0, 24), -1);
        DUE.same("P46 wrong", x.hears(0, -1), -1);
    }

    private static void hears() {
        HullEars x = new HullEars();
        DUE.same("P46 without a law all hear", x.hears(0, 0), 50176);
        Due.law(x, "ear 1");
        DUE.same("P46", x.hears(0, 0), 0);
        Due.law(x, "noise 8;loss range;ear 5");
        // Noise less loss is not below ear up to range 3 of (0, 0): 16 places, each with 49 runs.
        DUE.same("P46", x.hears(0, 0), 16 * 49);
        x.boat(1, 10, 10, 5);
        DUE.same("P46", x.hears(1, 0), 49 * 49);
        // The target must be reached from the boat's depth: range 0 does from 4 to 6 alone, all others there.
        x.boat(1, 10, 10, 9);
        x.terms(3, 0);
        DUE.same("P46 depth", x.hears(1, 0), 0);
        x.terms(3, 6);
        // From 9 to 6, or one off: 7 and 8 by slopes in range 1; 9, 8 (2 up), 7 or 5 (4) in 2 ..; not in range 0.
        DUE.same("P46 depth", x.hears(1, 0), 48 * 49);
        Due.law(x, "noise 1 if speed=3;ear 1");
        x.boat(0, 0, 0, 5);
        x.leg(0, 4, 3, 0);
        DUE.same("P46 speed", x.hears(0, 3), 0);
        DUE.same("P46 speed", x.hears(0, 4) > 0 ? 1 : 0, 1);
        HullEars none = new HullEars();
        none.heard(0, 0, 0);
        none.heard(0, 0, 40);
        DUE.same("P46 no run fits", none.hears(0, 0), 0);
    }
}
