/** Promises 50 to 53: images, going back, counts, status. */
public final class ImagesTest {
    private static final Due DUE = new Due("ImagesTest");

    public static void main(String[] args) {
        refusals();
        everythingGoesBack();
        whatIsNotKept();
        imagesStay();
        counts();
        status();
        DUE.finish();
    }

    private static void refusals() {
        HullEars x = new HullEars();
        DUE.same("P50", x.image(2), -1);
        DUE.same("P50", x.image(-1), -1);
        DUE.same("P51", x.back(2), -1);
        DUE.same("P51", x.back(-1), -1);
        DUE.same("P51 not kept", x.back(0), -2);
        DUE.same("P51 not kept", x.back(1), -2);
        DUE.same("P50", x.image(1), 0);
        DUE.same("P51 not kept", x.back(0), -2);
        DUE.same("P51", x.back(1), 0);
    }

    private static HullEars full() {
        HullEars x = new HullEars();
        x.boat(0, 1, 2, 3);
        x.leg(0, 4, 1, -1);
        x.leg(0, 6, 2, -1);
        x.boat(1, 3, 3, 4);
        x.leg(1, 5, 1, 1);
        x.terms(0, 7);
        x.terms(5, 9);
        x.day(1);
        x.layer(2, 50);
        x.heard(0, 1, 10);
        x.echo(1, 2, 20);
        x.wreck(30, 30);
        x.shoal(9, 9, 1, 2, 3);
        x.guess(5, 6, 1, 2);
        x.offer(1, 2);
        x.beat(60);
        x.cell(40, 50);
        Due.law(x, "noise 12;ear 3");
        return x;
    }

    /** All that can be asked of what an image keeps, as one number. */
    private static long look(HullEars x) {
        long sum = 17;
        int[] all = {x.where(0, 9, 0), x.where(0, 9, 1), x.where(0, 9, 2), x.where(1, 9, 0), x.where(1, 9, 1), x.where(1, 9, 2), x.count(16),
            x.reaches(2, 5, 2), x.reaches(3, 5, 9), x.known(0, 0), x.known(1, 0), x.count(0), x.count(1), x.count(2),
            x.count(3), x.count(4), x.count(5), x.count(6), x.count(7), x.count(14), x.count(15), x.runs(),
            x.run(5, 0), x.least(1), x.better(0), x.parts(0, 1, 0), x.heardBy(0, 1, 0), x.traces(0), x.watch(0, 1),
            x.pairings(1), x.screws(), x.tells(0, 0, 0, 0), x.hears(0, 0), (int) x.search(2, 0), x.looks(2, 0)};
        for (int n : all) {
            sum = sum * 31 + n;
        }
        return sum;
    }

    private static void everythingGoesBack() {
        HullEars x = full();
        long was = look(x);
        DUE.same("P50", x.image(0), 0);
        DUE.same("P50 changes nothing", look(x), was);
        HullEars fresh = new HullEars();
        DUE.same("looks differ", look(fresh) == was ? 1 : 0, 0);
        // One change after another, each taken back.
        for (int change = 0; change < 16; change++) {
            change(x, change);
            DUE.same("P51", x.back(0), 0);
            DUE.same("P51 behind change " + change, look(x), was);
        }
        for (int change = 0; change < 16; change++) {
            change(x, change);
        }
        DUE.same("P51", x.back(0), 0);
        DUE.same("P51 behind all", look(x), was);
        DUE.same("P51 terms", x.terms(0, 7), 7);
        DUE.same("P51 terms", x.terms(5, 9), 9);
        DUE.same("P51 terms", x.terms(4, 4), 4);
        DUE.same("P51 layer", x.layer(2, 50), 50);
        x.day(0);
        DUE.same("P51 layers of other days", x.layer(2, 100), 100);
        DUE.same("P51 legs", x.leg(0, 6, 0, 0), -3);
        DUE.same("P51 legs", x.boat(0, 1, 2, 3), 2);
        DUE.same("P51 legs", x.boat(1, 1, 2, 3), 1);
    }

    private static void change(HullEars x, int change) {
        switch (change) {
            case 0: x.boat(0, 20, 20, 9); break;
            case 1: x.leg(0, 9, 3, 3); x.boat(1, 9, 9, 9); break;
            case 2: x.terms(0, 1); break;
            case 3: x.terms(5, 1); break;
            case 4: x.layer(2, 77); break;
            case 5: x.day(0); x.layer(2, 33); break;
            case 6: x.heard(0, 2, 40); break;
            case 7: x.echo(0, 2, 40); break;
            case 8: x.wreck(1, 9); break;
            case 9: x.shoal(1, 9, 9, 0, 23); break;
            case 10: x.guess(1, 1, 1, 1); break;
            case 11: x.offer(3, 3); break;
            case 12: x.beat(45); break;
            case 13: x.cell(100, 100); break;
            case 14: Due.law(x, "noise 1;ear 4;loss 9"); break;
            default: Due.type(x, "\u0000\u0001\u0028"); x.row(); break;
        }
    }

    private static void whatIsNotKept() {
        HullEars x = new HullEars();
        Due.type(x, "\u0000\u0000\u0001\u0000");
        x.row();
        Due.law(x, "ear x");
        Due.type(x, "abc");
        x.image(0);
        x.end(0);
        Due.law(x, "ear 1 2");
        DUE.same("law() emptied the tape", x.count(8), 0);
        x.feed(0, 0, 0, 0, 0);
        x.row();
        x.feed(0, 0, 0, 0, 0);
        x.beat(0);
        x.boat(2, 0, 0, 0);
        int refused = x.count(9) + 10 * x.count(10) + 100 * x.count(13);
        x.back(0);
        DUE.same("P51 tape", x.count(8), 20);
        DUE.same("P51 fault", x.fault(), 6);
        DUE.same("P51 torn", x.torn(), 1);
        DUE.same("P52 refusals", x.count(9) + 10 * x.count(10) + 100 * x.count(13), refused);
        DUE.same("P52 refusals", refused, 211);
        DUE.same("P53 status", x.status(), 0);
    }

    private static void imagesStay() {
        HullEars x = new HullEars();
        x.wreck(1, 1);
        x.image(0);
        x.wreck(2, 2);
        x.image(1);
        x.wreck(3, 3);
        x.back(0);
        DUE.same("P51", x.count(2), 1);
        x.back(1);
        DUE.same("P51 the other one stays", x.count(2), 2);
        x.back(0);
        x.wreck(4, 4);
        x.wreck(5, 5);
        x.back(0);
        DUE.same("P51 again", x.count(2), 1);
        x.image(1);
        x.back(0);
        x.back(1);
        DUE.same("P50 over the old one", x.count(2), 1);
    }

    private static void counts() {
        HullEars x = full();
        int[] due = {1, 1, 1, 1, 1, 2, 1, 2, 0, 0, 0, 0, 0, 0, 1, 1, 1};
        for (int what = 0; what < due.length; what++) {
            DUE.same("P52 " + what, x.count(what), due[what]);
        }
        DUE.same("P52", x.count(17), -1);
        DUE.same("P52", x.count(-1), -1);
        x.feed(0, 0, 0, 0, 0);
        DUE.same("P52 tape", x.count(8), 20);
        x.day(9);
        x.terms(9, 9);
        x.leg(7, 1, 1, 1);
        x.leg(0, 4, 1, 1);
        x.end(0);
        x.row();
        x.law();
        for (int i = 0; i < 9; i++) {
            x.offer(0, 0);
        }
        int[] refused = {2, 1, 1, 2, 2};
        for (int i = 0; i < 5; i++) {
            DUE.same("P52 refused " + i, x.count(9 + i), refused[i]);
        }
        // What is asked in vain is not refused.
        x.where(9, 9, 9);
        x.known(9, 9);
        x.misses(-1, 0, 0, 0);
        x.feed(0, 0, 0, 0, 0);
        x.end(99);
        x.search(9, 9);
        x.count(99);
        for (int i = 0; i < 5; i++) {
            DUE.same("P52 not refused " + i, x.count(9 + i), refused[i]);
        }
    }

    private static void status() {
        DUE.sentence("What the latest call of boat, leg, terms, day, layer, heard, echo, wreck, shoal, row, law, guess, offer,"
            + " beat, cell, image, back was REFUSED by; 0 if it was not, or ahead of any.");
        HullEars x = new HullEars();
        DUE.same("P53 ahead of any", x.status(), 0);
        int[] why = {x.boat(0, 99, 0, 0), x.status(), x.boat(9, 9, 9, 9), x.status(), x.leg(0, 99, 0, 0), x.status(),
            x.terms(9, 9), x.status(), x.day(9), x.status(), x.layer(99, 9), x.status(), x.heard(9, 9, 9), x.status(),
            x.echo(9, 9, 9), x.status(), x.wreck(99, 9), x.status(), x.shoal(99, 9, 9, 9, 9), x.status(), x.row(),
            x.status(), x.law(), x.status(), x.guess(99, 9, 0, 0), x.status(), x.offer(9, 9), x.status(), x.beat(0),
            x.status(), x.cell(999, 9), x.status(), x.image(9), x.status(), x.back(0), x.status()};
        for (int i = 0; i < why.length; i += 2) {
            DUE.same("P53 refused " + i, why[i + 1], why[i]);
            DUE.same("P53 refused " + i, why[i] < 0 ? 1 : 0, 1);
        }
        DUE.same("P53 questions leave it", x.where(9, 0, 0), -1000);
        DUE.same("P53 questions leave it", x.status(), -2);
        DUE.same("P53 feed leaves it", x.feed(0, 0, 0, 0, 0), 20);
        DUE.same("P53 end leaves it", x.end(3), 3);
        DUE.same("P53", x.status(), -2);
        for (int i = 0; i < 17; i++) {
            x.offer(9, 9);
            DUE.same("P53", x.status(), -1);
            accepted(x, i);
            DUE.same("P53 accepted " + i, x.status(), 0);
        }
    }

    private static void accepted(HullEars x, int call) {
        switch (call) {
            case 0: x.boat(0, 0, 0, 0); break;
            case 1: x.leg(0, 0, 0, 0); break;
            case 2: x.terms(0, 0); break;
            case 3: x.day(0); break;
            case 4: x.layer(0, 0); break;
            case 5: x.heard(0, 0, 0); break;
            case 6: x.echo(0, 0, 0); break;
            case 7: x.wreck(0, 0); break;
            case 8: x.shoal(0, 0, 0, 0, 0); break;
            case 9: x.row(); break;
            case 10: Due.law(x, "ear 1"); break;
            case 11: x.guess(0, 0, 0, 0); break;
            case 12: x.offer(0, 0); break;
            case 13: x.beat(1); break;
            case 14: x.cell(0, 0); break;
            case 15: x.image(0); break;
            default: x.back(0); break;
        }
    }
}
