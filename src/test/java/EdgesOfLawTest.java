/** Terms IV, sentence by sentence: beats and screws, the law's text and what it tells, cells, images. */
public final class EdgesOfLawTest {
    private static final Due DUE = new Due("EdgesOfLawTest");

    public static void main(String[] args) {
        beats();
        turnsAndBlades();
        oneOff();
        screwsInOrder();
        noLawAtFirst();
        tapeAtMost();
        tokens();
        blanks();
        twelveClauses();
        heads();
        grammar();
        numbers();
        fiftyParts();
        eightBrackets();
        faultAtTheEnd();
        tooGreat();
        byNothing();
        cutTowardsNothing();
        behindOrAnd();
        holds();
        lastOfIt();
        notBelowEar();
        hearsByDepth();
        cells();
        looks();
        chances();
        alike();
        images();
        imagesKeep();
        DUE.finish();
    }

    private static void beats() {
        DUE.sentence("BEATS, 6 at most: 1 .. 3000 a minute.");
        HullEars x = new HullEars();
        int[] wrong = {0, -1, 3001, Integer.MIN_VALUE, Integer.MAX_VALUE};
        for (int w : wrong) {
            DUE.same("can't be", x.beat(w), -1);
        }
        DUE.same("none", x.count(4), 0);
        DUE.same("the least", x.beat(1), 1);
        DUE.same("the greatest", x.beat(3000), 2);
        for (int k = 3; k <= 6; k++) {
            DUE.same("how many", x.beat(7), k);
        }
        DUE.same("a seventh", x.beat(7), -5);
        DUE.same("6", x.count(4), 6);
    }

    private static int screws(int... beats) {
        HullEars x = new HullEars();
        for (int beat : beats) {
            x.beat(beat);
        }
        return x.screws();
    }

    private static void turnsAndBlades() {
        DUE.sentence("A SCREW has TURNS 1 .. 300 and BLADES 3 .. 7");
        // 1 by 3 is the least of all, 300 by 7 the greatest.
        DUE.same("1", screws(1), 0);
        DUE.same("2", screws(2), 1);
        DUE.same("2100", screws(2100), 1);
        DUE.same("2101", screws(2101), 1);
        DUE.same("2102", screws(2102), 0);
        DUE.same("3000", screws(3000), 0);
        // 8 by 1 would be too many blades; 9 by 1 too: 3 by 3 alone, and 2 by 4 and 5, one off.
        HullEars x = new HullEars();
        x.beat(9);
        int[][] due = {{2, 4}, {2, 5}, {3, 3}};
        DUE.same("9", x.screws(), 3);
        for (int i = 0; i < 3; i++) {
            DUE.same("turns", x.screw(i, 0), due[i][0]);
            DUE.same("blades", x.screw(i, 1), due[i][1]);
        }
        // 7 by 1 is the most of one turn.
        HullEars y = new HullEars();
        y.beat(7);
        DUE.same("7", y.screw(0, 0), 1);
        DUE.same("7", y.screw(0, 1), 6);
        DUE.same("7", y.screw(1, 1), 7);
    }

    private static void oneOff() {
        DUE.sentence("it FITS, if the first BEAT is at most 1 off from TURNS times BLADES, each other one at most 1 off from"
            + " some TURNS times 1 .. 21");
        // 300 by 7 alone is near 2100: 6 blades would need 350 turns.
        for (int off = -2; off <= 2; off++) {
            DUE.same("first off " + off, screws(2100 + off), Math.abs(off) <= 1 ? 1 : 0);
        }
        // Near 700 are 100 by 7, 140 by 5, 175 by 4 and 233 by 3.
        DUE.same("700", screws(700), 4);
        for (int off = -2; off <= 2; off++) {
            HullEars x = new HullEars();
            x.beat(700);
            x.beat(100 + off);
            x.beat(200 - off);
            DUE.same("others off " + off, x.screws(), Math.abs(off) <= 1 ? 1 : 0);
        }
        DUE.same("21 times", screws(700, 100, 2100), 1);
        DUE.same("21 times and one", screws(700, 100, 2101), 1);
        DUE.same("21 times and two", screws(700, 100, 2102), 0);
        DUE.same("22 times", screws(700, 100, 2200), 0);
        DUE.same("less than once", screws(700, 100, 98), 0);
        DUE.same("once less one", screws(700, 100, 99), 1);
        DUE.same("all six", screws(700, 100, 200, 300, 400, 500), 1);
        DUE.same("the sixth", screws(700, 100, 200, 300, 400, 550), 0);
        DUE.same("the others need no blades", screws(700, 100, 1100), 1);
        DUE.same("1 is no times 0", screws(700, 1), 0);
        DUE.same("one turn and one off", screws(4, 1), 3);
        DUE.same("two turns and one off", screws(9, 1), 2);
        DUE.sentence("How many SCREWS FIT (0 without a BEAT).");
        DUE.same("without", screws(), 0);
        for (int beat = 1; beat <= 3000; beat++) {
            int fitting = 0;
            for (int turns = 1; turns <= 300; turns++) {
                for (int blades = 3; blades <= 7; blades++) {
                    if (Math.abs(turns * blades - beat) <= 1) fitting++;
                }
            }
            HullEars x = new HullEars();
            x.beat(beat);
            DUE.same("beat " + beat, x.screws(), fitting);
            DUE.same("no more of " + beat, x.screw(fitting, 0), -1);
            int last = fitting == 0 ? 0 : x.screw(fitting - 1, 0) * x.screw(fitting - 1, 1);
            DUE.yes("the last of " + beat, fitting == 0 || Math.abs(last - beat) <= 1);
        }
    }

    private static void screwsInOrder() {
        DUE.sentence("In order by TURNS, then BLADES.");
        HullEars x = new HullEars();
        x.beat(12);
        // 2 by 6; 3 by 4; 4 by 3; one off: 13: none but by 1; 11: none.
        int[][] due = {{2, 6}, {3, 4}, {4, 3}};
        DUE.same("three", x.screws(), 3);
        for (int i = 0; i < 3; i++) {
            DUE.same("turns", x.screw(i, 0), due[i][0]);
            DUE.same("blades", x.screw(i, 1), due[i][1]);
        }
        DUE.same("no fourth", x.screw(3, 0), -1);
        DUE.same("none below", x.screw(-1, 0), -1);
        DUE.same("far away", x.screw(Integer.MAX_VALUE, 0), -1);
        DUE.same("far away", x.screw(Integer.MIN_VALUE, 1), -1);
    }

    private static void noLawAtFirst() {
        DUE.sentence("The LAW is a TEXT (none at first: no CLAUSE)");
        HullEars x = new HullEars();
        DUE.same("no clause", x.count(5), 0);
        DUE.same("no fault", x.fault(), -1);
        for (int what = 0; what <= 2; what++) {
            DUE.same("tells 0", x.tells(1, 23, 200, what), 0);
        }
        DUE.same("all hear", x.hears(0, 0), 50176);
    }

    private static void tapeAtMost() {
        DUE.sentence("on a TAPE of at most 400 bytes");
        HullEars x = new HullEars();
        DUE.same("empty", x.count(8), 0);
        for (int size = 20; size <= 400; size += 20) {
            DUE.same("how many", x.feed(0x20202020, 0x20202020, 0x20202020, 0x20202020, 0x20202020), size);
        }
        DUE.same("more than 400", x.feed(0, 0, 0, 0, 0), -1);
        DUE.same("400", x.count(8), 400);
        DUE.same("381 and 20", x.end(381) + x.feed(0, 0, 0, 0, 0), 380);
        DUE.same("380 and 20", x.end(380) + x.feed(0, 0, 0, 0, 0), 780);
        x.end(0);
        // A law that fills it to the last byte.
        String text = "ear 1" + " ".repeat(390) + "+1000";
        DUE.same("400 bytes", text.length(), 400);
        DUE.same("law", Due.law(x, text), 1);
        DUE.same("tells", x.tells(0, 0, 0, 2), 1001);
        DUE.same("fault at the last", Due.law(x, text.substring(0, 399) + "x"), -6);
        DUE.same("fault at the last", x.fault(), 399);
    }

    private static void law(String text, int clauses) {
        HullEars x = new HullEars();
        DUE.same("clauses of " + text, Due.law(x, text), clauses);
        DUE.same("no fault of " + text, x.fault(), -1);
        DUE.same("no refusal of " + text, x.status(), 0);
        DUE.same("the tape is empty", x.count(8), 0);
    }

    private static void fault(String text, int place) {
        HullEars x = new HullEars();
        DUE.same("law " + text, Due.law(x, text), -6);
        DUE.same("fault of " + text, x.fault(), place);
        DUE.same("refused " + text, x.status(), -6);
        DUE.same("no clause", x.count(5), 0);
        DUE.same("the tape is empty", x.count(8), 0);
    }

    private static void tokens() {
        DUE.sentence("TOKENS: longest rows of letters a .. z, of digits, single other bytes");
        law("noise5", 1);
        law("noise5if5=5", 1);
        law("noise5if5=5and5=5", 1);
        law("noise[5]*[5]if(5=5)or(5=5)", 1);
        fault("noisespeed", 0);
        fault("noise speedspeed", 6);
        fault("noise 5 if not5 = 5 an d 5 = 5", 20);
        fault("noise 5 5", 8);
        fault("noise 1 0", 8);
        fault("noise 5ifif", 7);
        fault("NOISE 5", 0);
        fault("noise 5 `", 8);
        fault("noise 5 {", 8);
        fault("noise {", 6);
        fault("noise /", 6);
        fault("noise :", 6);
        fault("noise \u007f", 6);
        fault("noise \u00ff", 6);
        fault("noise 5 if 5==5", 13);
        fault("noise 5 if 5<>5", 13);
        fault("noise 5 +- 5", 9);
    }

    private static void blanks() {
        DUE.sentence("any blanks (32) between");
        law("   noise   5   +   5   if   not   (   5   <   6   )   ;   ear   1   ", 2);
        law("noise" + " ".repeat(394) + "5", 1);
        fault("noise\t5", 5);
        fault("noise\n5", 5);
        fault("noise\u00005", 5);
        fault("noise\u00a05", 5);
        fault("noise 5\n", 7);
        DUE.sentence("(blanks alone: FAULT at the end; the one before stays)");
        fault("", 0);
        fault(" ", 1);
        fault(" ".repeat(20), 20);
        fault(" ".repeat(400), 400);
        HullEars x = new HullEars();
        Due.law(x, "ear 3;ear 4");
        DUE.same("blanks", Due.law(x, "   "), -6);
        DUE.same("at the end", x.fault(), 3);
        DUE.same("the one before stays", x.count(5), 2);
        DUE.same("the one before stays", x.tells(0, 0, 0, 2), 4);
        DUE.same("nothing", x.law(), -6);
        DUE.same("at the end", x.fault(), 0);
        DUE.same("the one before stays", x.tells(0, 0, 0, 2), 4);
        DUE.same("and is no fault by and by", Due.law(x, "loss 1"), 1);
        DUE.same("no fault", x.fault(), -1);
    }

    private static void twelveClauses() {
        DUE.sentence("CLAUSE {\";\" CLAUSE}, 12 at most (FAULT at the 13th's first TOKEN)");
        StringBuilder text = new StringBuilder();
        for (int k = 1; k <= 12; k++) {
            text.append(k == 1 ? "" : "; ").append(k % 2 == 0 ? "ear" : "noise").append(" 7");
            law(text.toString(), k);
            fault(text + ";", text.length() + 1);
            fault(text + "; ", text.length() + 2);
        }
        fault(text + ";ear 7", text.length() + 1);
        fault(text + ";   ear 7", text.length() + 4);
        fault(text + "; nonsense", text.length() + 2);
        fault(text + "; +", text.length() + 2);
        fault(text + "; ear 7; ear 7", text.length() + 2);
        fault(text + " ear 7", text.length() + 1);
        fault(";" + text, 0);
    }

    private static void heads() {
        DUE.sentence("HEAD: \"noise\" | \"loss\" | \"ear\"");
        HullEars x = new HullEars();
        DUE.same("law", Due.law(x, "noise 1;loss 2;ear 3"), 3);
        for (int what = 0; what <= 2; what++) {
            DUE.same("each its own", x.tells(0, 0, 0, what), what + 1);
        }
        fault("speed 1", 0);
        fault("if 1=1", 0);
        fault("ears 1", 0);
        fault("1", 0);
        fault("ear 1;los 1", 6);
        fault("ear 1;[1]", 6);
    }

    private static void grammar() {
        DUE.sentence("FAULT: the first TOKEN that can't go on there");
        fault("noise if", 6);
        fault("noise noise", 6);
        fault("noise not 1=1", 6);
        fault("noise (1)", 6);
        fault("noise 1+;ear 1", 8);
        fault("noise 1*+1", 8);
        fault("noise [1;ear 1", 8);
        fault("noise [1=1]", 8);
        fault("noise 1]", 7);
        fault("noise 1)", 7);
        fault("noise 1=1", 7);
        fault("noise 1 or 1", 8);
        fault("noise 1 if ;", 11);
        fault("noise 1 if 1;", 12);
        fault("noise 1 if 1 and 1=1", 13);
        fault("noise 1 if (1+1)=2", 15);
        fault("noise 1 if (1=1)=(1=1)", 16);
        fault("noise 1 if 1=(1)", 13);
        fault("noise 1 if [(1=1)]", 12);
        fault("noise 1 if (1=1", 15);
        fault("noise 1 if (1=1;", 15);
        fault("noise 1 if 1=1)", 14);
        fault("noise 1 if 1=1 not 1=1", 15);
        fault("noise 1 if or 1=1", 11);
        fault("noise 1 if 1=1 and and 1=1", 19);
        fault("noise 1 if not and", 15);
        fault("noise 1 if noise = 1", 11);
        fault("noise 1 if 1 = if", 15);
        fault("noise 1 if () ", 12);
        fault("noise [] ", 7);
        law("noise 1 if not not not 1=1", 1);
        law("noise 1 if not (not (not 1=1))", 1);
        law("noise 1 if [1]=[1]", 1);
        law("noise 1 if ([1+1]=2)", 1);
    }

    private static void numbers() {
        DUE.sentence("NUMBER (to 1,000)");
        HullEars x = new HullEars();
        int[] good = {0, 1, 9, 10, 999, 1000};
        for (int n : good) {
            DUE.same("law " + n, Due.law(x, "ear " + n), 1);
            DUE.same("tells", x.tells(0, 0, 0, 2), n);
        }
        DUE.same("ahead of it noughts", Due.law(x, "ear 00000000000000000000001000"), 1);
        DUE.same("tells", x.tells(0, 0, 0, 2), 1000);
        fault("ear 1001", 4);
        fault("ear 9999", 4);
        fault("ear 2147483648", 4);
        fault("ear 4294967297", 4);
        fault("ear 18446744073709551617", 4);
        fault("ear 1" + "0".repeat(390), 4);
        fault("ear 1+1001", 6);
        fault("ear 1 if 1=1001", 11);
        fault("ear 1,000", 5);
        fault("ear 1.5", 5);
    }

    private static void fiftyParts() {
        DUE.sentence("50 PARTS that are NUMBERS and words (FAULT at the 51st)");
        String[] words = {"1", "speed", "depth", "range", "bell", "boat"};
        for (String word : words) {
            String fifty = "ear " + word + "+1".repeat(48) + "+" + word;
            law(fifty, 1);
            fault(fifty + "+" + word, fifty.length() + 1);
            fault(fifty + "+[" + word + "]", fifty.length() + 2);
            fault(fifty + " if " + word, fifty.length() + 4);
            fault(fifty + ";ear " + word, fifty.length() + 5);
            // Brackets are none, and what can't go on is a fault for itself.
            fault(fifty + "+", fifty.length() + 1);
            fault(fifty + "]", fifty.length());
        }
        law("ear " + "[".repeat(8) + "1" + "+1".repeat(49) + "]".repeat(8), 1);
        String tests = "ear 0+0 if 1=1" + " and 1=1".repeat(23);
        law(tests, 1);
        fault(tests + " or bell=1", tests.length() + 4);
        String less = "ear 0 if 1=1" + " and 1=1".repeat(23);
        law(less, 1);
        fault(less + " or bell=1", less.length() + 9);
    }

    private static void eightBrackets() {
        DUE.sentence("8 brackets of both kinds within one another (FAULT at the 9th)");
        for (int outer = 0; outer <= 8; outer++) {
            int inner = 8 - outer;
            String head = "ear 1 if " + "(".repeat(outer) + "[".repeat(inner);
            law(head + "1" + "]".repeat(inner) + "=1" + ")".repeat(outer), 1);
            fault(head + "[1]" + "]".repeat(inner) + "=1" + ")".repeat(outer), 17);
            if (inner == 0) fault(head + "(1=1)" + ")".repeat(outer), 17);
        }
        law("ear " + "[".repeat(8) + "1" + "]".repeat(8), 1);
        fault("ear " + "[".repeat(9) + "1" + "]".repeat(9), 12);
        // Side by side they are not within one another.
        law("ear [1]+[1]+[1]+[1]+[1]+[1]+[1]+[1]+[1]+[1]", 1);
        law("ear " + "[".repeat(8) + "1" + "]".repeat(8) + "+" + "[".repeat(8) + "1" + "]".repeat(8), 1);
        law("ear [1] if (1=1) and (1=1) and (1=1) and (1=1) and (1=1) and (1=1) and (1=1) and (1=1) and (1=1)", 1);
        law("ear " + "[".repeat(8) + "1" + "]".repeat(8) + " if " + "(".repeat(8) + "1=1" + ")".repeat(8), 1);
    }

    private static void faultAtTheEnd() {
        DUE.sentence("(the end's: the TEXT's length)");
        String[] open = {"noise", "noise 1+", "noise 1-", "noise 1*", "noise 1/", "noise [", "noise [1", "noise [1+1",
            "noise 1;", "noise 1 if", "noise 1 if 1", "noise 1 if 1<", "noise 1 if 1=1 or", "noise 1 if 1=1 and",
            "noise 1 if not", "noise 1 if (", "noise 1 if (1=1", "noise 1 if [1"};
        for (String text : open) {
            fault(text, text.length());
            fault(text + "    ", text.length() + 4);
        }
    }

    /** What a sum tells as loss, of boat 1 at bell 6 with speed 3, depth 2, in range 40; NOTHING that holds: 5. */
    private static int told(String sum) {
        HullEars x = new HullEars();
        x.boat(1, 1, 1, 2);
        x.leg(1, 6, 3, 0);
        return Due.law(x, "loss 5;loss " + sum) == 2 ? x.tells(1, 6, 40, 1) : -77;
    }

    private static void sum(String sum, int due) {
        DUE.same(sum, told(sum), due);
    }

    private static void test(String test, boolean due) {
        DUE.same(test, told("8 if " + test), due ? 8 : 5);
    }

    private static void tooGreat() {
        DUE.sentence("Beyond 1,000,000,000 either way, or divided by 0, a SUM, a TEST is BROKEN");
        sum("1000*1000*1000", 1000000000);
        sum("1000*1000*1000+0", 1000000000);
        sum("1000*1000*1000+1", 5);
        sum("999*1000*1000+1000*1000", 1000000000);
        sum("999*1000*1000+1000*1000+boat", 5);
        sum("0-1000*1000*1000", -1000000000);
        sum("0-1000*1000*1000-1", 5);
        sum("1000*1000*1000*2", 5);
        sum("1000*1000*[0-1000]", -1000000000);
        sum("1000*1000*[0-999-boat]", -1000000000);
        sum("1000*1000*1000*1000*1000*1000*1000", 5);
        sum("[1000*1000*1000+1]/2", 5);
        sum("1000*1000*1000/1000", 1000000);
        sum("1000*1000*1000*1000/1000", 5);
        sum("3*1000*1000*1000", 5);
        sum("0*[1000*1000*1000+1]", 5);
        test("1000*1000*1000=1000*1000*1000", true);
        test("1000*1000*1000+1>0", false);
        test("not 1000*1000*1000+1>0", false);
        test("0<1000*1000*1000+1", false);
        test("0-1000*1000*1000-1<0", false);
        // Each within, though apart by twice as much.
        test("0-1000*1000*1000<1000*1000*1000", true);
        test("1000*1000*1000>0-1000*1000*1000", true);
    }

    private static void byNothing() {
        DUE.sentence("or divided by 0");
        sum("1/0", 5);
        sum("0/0", 5);
        sum("1/[boat-1]", 5);
        sum("1/[speed-3]", 5);
        sum("0*[1/0]", 5);
        sum("7/[range-39]", 7);
        test("1/0=1", false);
        test("not 1/0=1", false);
        test("1/0=1/0", false);
        test("1=1/0", false);
    }

    private static void cutTowardsNothing() {
        DUE.sentence("/ is cut towards 0");
        sum("7/2", 3);
        sum("[0-7]/2", -3);
        sum("7/[0-2]", -3);
        sum("[0-7]/[0-2]", 3);
        sum("1/2", 0);
        sum("[0-1]/2", 0);
        sum("1/[0-2]", 0);
        sum("0/[0-7]", 0);
        sum("[0-1000*1000*1000]/1000", -1000000);
        sum("[0-1000*1000*1000]/[0-1]", 1000000000);
    }

    private static void behindOrAnd() {
        DUE.sentence("(\"or\", \"and\" ask what stands behind only if it can still matter)");
        test("1=1 or 1/0=1", true);
        test("1=2 or 1/0=1", false);
        test("not (1=2 or 1/0=1)", false);
        test("1=2 and 1/0=1", false);
        test("not (1=2 and 1/0=1)", true);
        test("1=1 and 1/0=1", false);
        test("not (1=1 and 1/0=1)", false);
        test("1/0=1 or 1=1", false);
        test("1/0=1 and 1=2", false);
        test("not (1/0=1 and 1=2)", false);
        test("1=2 and 1/0=1 or 1=1", true);
        test("1=1 or 1/0=1 and 1/0=1", true);
        test("(1=1 or 1/0=1) and 1=1", true);
        test("1=1 and (1=1 or 1/0=1)", true);
        test("1=2 and 1/0=1 and 1/0=1 or 1=1", true);
        test("1=2 or 1=2 or 1=1 or 1/0=1", true);
        test("not 1=2 or 1/0=1", true);
        test("not (1=1) and 1/0=1 or 1=1", true);
    }

    private static void holds() {
        DUE.sentence("A CLAUSE HOLDS, if its \"if\" (if it has one) is so, and neither that nor its SUM is BROKEN");
        sum("9", 9);
        sum("9 if 1=1", 9);
        sum("9 if 1=2", 5);
        sum("9 if 1/0=1", 5);
        sum("9/0", 5);
        sum("9/0 if 1=1", 5);
        sum("9/0 if 1=2", 5);
        sum("9 if speed=3 and depth=2 and range=40 and bell=6 and boat=1", 9);
    }

    private static void lastOfIt() {
        DUE.sentence("what the last CLAUSE of it that HOLDS tells, 0 without");
        HullEars x = new HullEars();
        Due.law(x, "noise 1 if range>9;noise 2 if range>19;noise 3/0;loss 4 if range>9;noise 6 if range=30;loss 7 if bell=1");
        int[][] due = {{9, 0, 0}, {10, 1, 4}, {19, 1, 4}, {20, 2, 4}, {30, 6, 4}, {31, 2, 4}};
        for (int[] d : due) {
            DUE.same("noise in " + d[0], x.tells(0, 0, d[0], 0), d[1]);
            DUE.same("loss in " + d[0], x.tells(0, 0, d[0], 1), d[2]);
            DUE.same("ear in " + d[0], x.tells(0, 0, d[0], 2), 0);
            DUE.same("loss at 1", x.tells(0, 1, d[0], 1), 7);
        }
    }

    private static HullEars pinned() {
        HullEars x = new HullEars();
        x.terms(1, 0);
        x.boat(0, 16, 16, 5);
        x.echo(0, 0, 0);
        x.echo(0, 23, 0);
        return x;
    }

    private static void notBelowEar() {
        DUE.sentence("if NOISE less LOSS is not below EAR in their RANGE");
        HullEars x = pinned();
        x.boat(1, 16, 9, 5);
        int[][] due = {{5, 2, 3, 1}, {5, 3, 3, 0}, {4, 2, 3, 0}, {5, 2, 4, 0}, {0, 0, 0, 1}, {0, 1, 0, 0}};
        for (int[] d : due) {
            Due.law(x, "noise " + d[0] + ";loss " + d[1] + ";ear " + d[2]);
            DUE.same(d[0] + " less " + d[1] + " for " + d[2], x.hears(1, 9), d[3]);
        }
        // The greatest and the least of all: 2,000,000,000 apart.
        Due.law(x, "noise 1000*1000*1000;loss 0-1000*1000*1000;ear 1000*1000*1000");
        DUE.same("far above", x.hears(1, 9), 1);
        Due.law(x, "noise 0-1000*1000*1000;loss 1000*1000*1000;ear 0-1000*1000*1000");
        DUE.same("far below", x.hears(1, 9), 0);
        Due.law(x, "noise 7;loss range");
        DUE.same("7 away", x.hears(1, 9), 1);
        x.boat(1, 16, 8, 5);
        DUE.same("8 away", x.hears(1, 9), 0);
        Due.law(x, "loss 1 if range>0");
        DUE.same("at the own place", x.hears(0, 9), 1);
    }

    private static void hearsByDepth() {
        DUE.sentence("and a SOUND REACHES TARGET's DEPTH from the BOAT's");
        HullEars x = pinned();
        for (int depth = 0; depth <= 9; depth++) {
            x.layer(depth, 200 - 7 * depth);
        }
        boolean ways = false;
        for (int range = 0; range <= 15; range++) {
            x.boat(1, 16 - range, 16, 1);
            DUE.same("range " + range, x.hears(1, 11), x.reaches(1, 5, range));
            ways |= x.reaches(1, 5, range) != x.reaches(5, 1, range);
        }
        DUE.yes("it matters which way", ways);
    }

    private static void cells() {
        DUE.sentence("CELLS, 6 at most: WEIGHT 0 .. 100, FIND 0 .. 100.");
        HullEars x = new HullEars();
        int[] wrong = {-1, 101, Integer.MIN_VALUE, Integer.MAX_VALUE};
        for (int w : wrong) {
            DUE.same("weight " + w, x.cell(w, 50), -1);
            DUE.same("find " + w, x.cell(50, w), -1);
        }
        int[][] good = {{0, 0}, {100, 100}, {0, 100}, {100, 0}, {1, 99}, {99, 1}};
        for (int k = 0; k < 6; k++) {
            DUE.same("its number", x.cell(good[k][0], good[k][1]), k);
        }
        DUE.same("a seventh", x.cell(50, 50), -5);
        DUE.same("6", x.count(6), 6);
        DUE.same("the last", x.looks(0, 5), 0);
        DUE.same("no other", x.looks(0, 6), -1);
        DUE.same("no other", x.looks(0, -1), -1);
    }

    private static void looks() {
        DUE.sentence("Of some LOOKS (0 .. 6) each is at one CELL");
        HullEars x = new HullEars();
        x.cell(10, 50);
        x.cell(20, 50);
        x.cell(30, 50);
        int[] wrong = {-1, 7, Integer.MIN_VALUE, Integer.MAX_VALUE};
        for (int w : wrong) {
            DUE.same("search " + w, x.search(w, 0), -1);
            DUE.same("looks " + w, x.looks(w, 0), -1);
            DUE.same("part " + w, x.search(1, w == 7 ? 2 : w), -1);
        }
        for (int looks = 0; looks <= 6; looks++) {
            DUE.same("all of them", x.looks(looks, 0) + x.looks(looks, 1) + x.looks(looks, 2), looks);
        }
        DUE.same("none find nothing", x.search(0, 0), 0);
        DUE.same("none find nothing", x.search(0, 1), 1);
    }

    private static void chance(HullEars x, int looks, long upper, long lower) {
        DUE.same("upper of " + looks, x.search(looks, 0), upper);
        DUE.same("lower of " + looks, x.search(looks, 1), lower);
    }

    private static void chances() {
        DUE.sentence("of all WEIGHTS the parts of CELLS, each times 1 less (100 less FIND) through 100, as many times as it is"
            + " looked at");
        HullEars sure = new HullEars();
        sure.cell(37, 100);
        chance(sure, 1, 1, 1);
        chance(sure, 6, 1, 1);
        HullEars never = new HullEars();
        never.cell(37, 0);
        chance(never, 6, 0, 1);
        HullEars half = new HullEars();
        half.cell(1, 50);
        long lower = 1;
        for (int looks = 0; looks <= 6; looks++) {
            chance(half, looks, lower - 1, lower);
            lower *= 2;
        }
        HullEars two = new HullEars();
        two.cell(1, 99);
        two.cell(1, 99);
        chance(two, 1, 99, 200);
        chance(two, 2, 99, 100);
        chance(two, 6, 999999, 1000000);
        DUE.sentence("in lowest terms (0 by 1 without WEIGHTS)");
        HullEars none = new HullEars();
        chance(none, 0, 0, 1);
        chance(none, 6, 0, 1);
        none.cell(0, 100);
        chance(none, 6, 0, 1);
        none.cell(0, 0);
        chance(none, 1, 0, 1);
        none.cell(1, 100);
        chance(none, 1, 1, 1);
        HullEars great = new HullEars();
        for (int k = 0; k < 6; k++) {
            great.cell(100, 99);
        }
        chance(great, 6, 99, 100);
        chance(great, 1, 33, 200);
    }

    private static void alike() {
        DUE.sentence("of alike ones the first by how many LOOKS the CELLS have, in order, most first");
        HullEars x = new HullEars();
        for (int k = 0; k < 6; k++) {
            x.cell(50, 100);
        }
        for (int looks = 0; looks <= 6; looks++) {
            for (int cell = 0; cell < 6; cell++) {
                DUE.same(looks + " looks at " + cell, x.looks(looks, cell), cell < looks ? 1 : 0);
            }
        }
        HullEars idle = new HullEars();
        idle.cell(0, 50);
        idle.cell(100, 100);
        idle.cell(0, 50);
        // One look finds all; the rest may go anywhere, so to the first.
        int[] due = {5, 1, 0};
        for (int cell = 0; cell < 3; cell++) {
            DUE.same("idle looks at " + cell, idle.looks(6, cell), due[cell]);
        }
        HullEars none = new HullEars();
        none.cell(0, 0);
        none.cell(0, 0);
        DUE.same("without weights all at the first", none.looks(6, 0), 6);
        DUE.same("without weights all at the first", none.looks(6, 1), 0);
        HullEars steps = new HullEars();
        steps.cell(25, 50);
        steps.cell(50, 50);
        steps.cell(100, 50);
        // Gains 50, 25 and 25, 12.5 and 12.5 and 12.5.
        int[][] each = {{0, 0, 0}, {0, 0, 1}, {0, 1, 1}, {0, 1, 2}, {1, 1, 2}, {1, 2, 2}, {1, 2, 3}};
        for (int looks = 0; looks <= 6; looks++) {
            for (int cell = 0; cell < 3; cell++) {
                DUE.same("steps, " + looks + " looks at " + cell, steps.looks(looks, cell), each[looks][cell]);
            }
        }
    }

    private static void images() {
        DUE.sentence("IMAGES 0, 1");
        HullEars x = new HullEars();
        int[] wrong = {-1, 2, Integer.MIN_VALUE, Integer.MAX_VALUE};
        for (int w : wrong) {
            DUE.same("no image " + w, x.image(w), -1);
            DUE.same("no way back to " + w, x.back(w), -1);
        }
        DUE.same("not kept", x.back(0), -2);
        DUE.same("kept", x.image(1), 0);
        DUE.same("still not kept", x.back(0), -2);
        DUE.same("kept", x.back(1), 0);
        DUE.same("kept", x.image(0), 0);
        DUE.same("kept", x.back(0), 0);
    }

    private static void imagesKeep() {
        DUE.sentence("BACK to one all that it keeps is as it was then (IMAGES stay)");
        HullEars x = new HullEars();
        x.image(0);
        x.offer(1, 1);
        x.image(1);
        x.offer(2, 2);
        for (int again = 0; again < 3; again++) {
            x.back(0);
            DUE.same("nothing", x.count(3), 0);
            DUE.same("its numbers begin again", x.offer(3, 3), 0);
            x.back(1);
            DUE.same("one", x.count(3), 1);
            DUE.same("its numbers go on", x.offer(3, 3), 1);
        }
        DUE.sentence("IMAGES 0, 1 keep all but the TAPE, FAULT and TORN");
        HullEars y = new HullEars();
        Due.type(y, "\u0009");
        y.row();
        Due.law(y, "ear");
        Due.type(y, "ear 7");
        y.image(0);
        DUE.same("the tape stays", y.count(8), 5);
        y.end(4);
        y.back(0);
        DUE.same("the tape stays as it is", y.count(8), 4);
        DUE.same("and is read", y.law(), -6);
        DUE.same("fault", y.fault(), 4);
        y.back(0);
        DUE.same("fault stays", y.fault(), 4);
        Due.type(y, "\u0009\u0009\u0009\u0009");
        y.row();
        y.back(0);
        DUE.same("torn stays", y.torn(), 2);
        DUE.same("the tape stays empty", y.count(8), 0);
    }
}
