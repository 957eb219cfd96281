import java.util.ArrayList;
import java.util.List;
import java.util.function.ToLongFunction;

/**
 * A refused call leaves all as it was, but for its count and the status; a question leaves these,
 * too. Each is tried on one of two twins, who must be alike behind it.
 */
public final class RefusedTest {
    private static final Due DUE = new Due("RefusedTest");
    private static final int LOW = Integer.MIN_VALUE;
    private static final int HIGH = Integer.MAX_VALUE;

    public static void main(String[] args) {
        theProbeSeesChanges();
        refusedByMinusOne();
        refusedByMinusTwo();
        refusedByMinusThree();
        refusedByMinusFive();
        rowRefused();
        lawRefused();
        tapeNotTaken();
        questionsInVain();
        questions();
        DUE.finish();
    }

    /** Something of everything, room for more of each; image 0 is kept, image 1 not; a law lies on the tape. */
    private static HullEars some() {
        HullEars x = new HullEars();
        x.image(0);
        x.boat(0, 4, 3, 6);
        x.boat(1, 28, 5, 4);
        x.leg(0, 2, 1, 0);
        x.leg(0, 8, 0, 1);
        x.leg(1, 5, -1, 2);
        x.terms(0, 9);
        x.terms(2, 1);
        x.terms(5, 8);
        x.layer(3, 120);
        x.day(1);
        x.layer(5, 90);
        for (int k = 0; k < 6; k++) {
            x.heard(k % 2, 6 * (k / 2), 22 - 13 * (k % 2) + k);
        }
        x.echo(0, 2, 15);
        x.wreck(9, 30);
        x.shoal(20, 1, 2, 3, 9);
        x.guess(12, 14, 1, 0);
        x.guess(30, 2, -1, 0);
        x.offer(1, -1);
        x.offer(-2, 3);
        x.beat(60);
        x.cell(30, 40);
        x.cell(20, 70);
        Due.law(x, "noise 9+speed;loss range/3;ear 2");
        Due.type(x, "ear 5");
        return x;
    }

    /** All that can be full is full. */
    private static HullEars full() {
        HullEars x = some();
        for (int k = 0; k < 18; k++) {
            x.heard(k % 2, k, 18 - 10 * (k % 2) + k % 5);
            if (k < 11) x.echo(k % 2, k, 3 * k);
            if (k < 7) x.wreck(k, 31);
            if (k < 5) x.shoal(k, 1, 1, k, 12);
            if (k < 6) x.guess(k, k, 1, 1);
            if (k < 6) x.offer(k % 4, -2);
            if (k < 5) x.beat(30);
            if (k < 4) x.cell(k, 4 * k);
            if (k < 4) x.leg(0, 9 + k, 1, -1);
            if (k < 5) x.leg(1, 9 + k, -1, 1);
        }
        return x;
    }

    private static int[] refusals(HullEars x) {
        int[] found = new int[6];
        for (int i = 0; i < 5; i++) {
            found[i] = x.count(9 + i);
        }
        found[5] = x.status();
        return found;
    }

    private static void refuses(String what, HullEars one, HullEars twin, int due, ToLongFunction<HullEars> call) {
        int[] was = refusals(one);
        DUE.same(what, call.applyAsLong(one), due);
        int[] is = refusals(one);
        int[] reasons = {-1, -2, -3, -5, -6};
        for (int i = 0; i < 5; i++) {
            DUE.same(what + " counted " + reasons[i], is[i], was[i] + (reasons[i] == due ? 1 : 0));
        }
        DUE.same(what + " status", is[5], due);
        DUE.same(what + " left all as it was", Probe.differences(what, Probe.of(one), Probe.of(twin)), 0);
    }

    private static void refuses(String what, int due, ToLongFunction<HullEars> call) {
        refuses(what, some(), some(), due, call);
        refuses(what + ", all full", full(), full(), due, call);
    }

    /** Each change must show, or the twins would tell nothing. */
    private static void theProbeSeesChanges() {
        DUE.yes("some runs fit", some().runs() > 50);
        DUE.same("full, and nothing was refused", full().count(12) + full().count(9) + full().count(11), 0);
        DUE.same("twins", Probe.differences("twins", Probe.of(some()), Probe.of(some())), 0);
        List<ToLongFunction<HullEars>> changes = new ArrayList<>();
        changes.add(x -> x.boat(0, 4, 3, 7));
        changes.add(x -> x.boat(1, 28, 6, 4));
        changes.add(x -> x.leg(0, 22, 1, 1));
        changes.add(x -> x.leg(1, 23, 0, 1));
        for (int what = 0; what < 6; what++) {
            int term = what;
            changes.add(x -> x.terms(term, 2));
        }
        changes.add(x -> x.day(2));
        changes.add(x -> x.layer(5, 91));
        changes.add(x -> x.heard(1, 20, 5));
        changes.add(x -> x.echo(1, 20, 5));
        changes.add(x -> x.wreck(0, 0));
        changes.add(x -> x.shoal(0, 0, 0, 0, 0));
        changes.add(x -> x.feed(1, 2, 3, 4, 5));
        changes.add(x -> x.end(4));
        changes.add(HullEars::row);
        changes.add(HullEars::law);
        changes.add(x -> x.guess(0, 0, 0, 0));
        changes.add(x -> x.offer(0, 0));
        changes.add(x -> x.beat(61));
        changes.add(x -> x.cell(0, 0));
        changes.add(x -> x.image(0));
        changes.add(x -> x.image(1));
        changes.add(x -> x.back(0));
        List<String> was = Probe.of(some());
        for (int i = 0; i < changes.size(); i++) {
            HullEars x = some();
            DUE.yes("change " + i + " is taken", changes.get(i).applyAsLong(x) >= 0);
            DUE.yes("change " + i + " is seen", !Probe.of(x).equals(was));
        }
    }

    private static void refusedByMinusOne() {
        DUE.sentence("-1 a number that can't be");
        int[] noPlaces = {-1, 32, LOW, HIGH};
        for (int w : noPlaces) {
            refuses("boat east " + w, -1, x -> x.boat(0, w, 1, 1));
            refuses("boat north " + w, -1, x -> x.boat(1, 1, w, 1));
            refuses("wreck east " + w, -1, x -> x.wreck(w, 1));
            refuses("wreck north " + w, -1, x -> x.wreck(1, w));
            refuses("shoal east " + w, -1, x -> x.shoal(w, 1, 1, 1, 1));
            refuses("shoal north " + w, -1, x -> x.shoal(1, w, 1, 1, 1));
            refuses("guess east " + w, -1, x -> x.guess(w, 1, 1, 1));
            refuses("guess north " + w, -1, x -> x.guess(1, w, 1, 1));
        }
        int[] noPaces = {-4, 4, LOW, HIGH};
        for (int w : noPaces) {
            refuses("leg east " + w, -1, x -> x.leg(0, 22, w, 1));
            refuses("leg north " + w, -1, x -> x.leg(1, 22, 1, w));
            refuses("guess by east " + w, -1, x -> x.guess(1, 1, w, 1));
            refuses("guess by north " + w, -1, x -> x.guess(1, 1, 1, w));
            refuses("offer east " + w, -1, x -> x.offer(w, 1));
            refuses("offer north " + w, -1, x -> x.offer(1, w));
        }
        int[] noBells = {-1, 24, LOW, HIGH};
        for (int w : noBells) {
            refuses("leg at " + w, -1, x -> x.leg(0, w, 1, 1));
            refuses("heard at " + w, -1, x -> x.heard(0, w, 1));
            refuses("echo at " + w, -1, x -> x.echo(1, w, 1));
            refuses("shoal from " + w, -1, x -> x.shoal(1, 1, 1, w, 20));
            refuses("shoal to " + w, -1, x -> x.shoal(1, 1, 1, 0, w));
        }
        otherNumbers();
    }

    private static void otherNumbers() {
        refuses("shoal to ahead of from", -1, x -> x.shoal(1, 1, 1, 9, 8));
        int[] far = {LOW, -1, HIGH};
        for (int w : far) {
            refuses("depth " + w, -1, x -> x.boat(0, 1, 1, w));
            refuses("term " + w, -1, x -> x.terms(w, 1));
            refuses("error " + w, -1, x -> x.terms(0, w));
            refuses("gap " + w, -1, x -> x.terms(4, w));
            refuses("day " + w, -1, x -> x.day(w));
            refuses("layer " + w, -1, x -> x.layer(w, 1));
            refuses("slow " + w, -1, x -> x.layer(5, w));
            refuses("direction " + w, -1, x -> x.heard(0, 1, w));
            refuses("distance " + w, -1, x -> x.echo(0, 1, w));
            refuses("wide " + w, -1, x -> x.shoal(1, 1, w, 1, 1));
            refuses("beat " + w, -1, x -> x.beat(w));
            refuses("weight " + w, -1, x -> x.cell(w, 1));
            refuses("find " + w, -1, x -> x.cell(1, w));
            refuses("image " + w, -1, x -> x.image(w));
            refuses("back " + w, -1, x -> x.back(w));
        }
        refuses("depth 10", -1, x -> x.boat(0, 1, 1, 10));
        refuses("term 6", -1, x -> x.terms(6, 1));
        int[] most = {20, 9, 3, 9, 23, 40};
        for (int what = 0; what < 6; what++) {
            int term = what;
            refuses("term above " + what, -1, x -> x.terms(term, most[term] + 1));
        }
        refuses("gap 0", -1, x -> x.terms(4, 0));
        refuses("day 3", -1, x -> x.day(3));
        refuses("layer 10", -1, x -> x.layer(10, 1));
        refuses("slow 201", -1, x -> x.layer(5, 201));
        refuses("direction 80", -1, x -> x.heard(0, 1, 80));
        refuses("distance 100", -1, x -> x.echo(0, 1, 100));
        refuses("wide 10", -1, x -> x.shoal(1, 1, 10, 1, 1));
        refuses("beat 0", -1, x -> x.beat(0));
        refuses("beat 3001", -1, x -> x.beat(3001));
        refuses("weight 101", -1, x -> x.cell(101, 1));
        refuses("find 101", -1, x -> x.cell(1, 101));
        refuses("image 2", -1, x -> x.image(2));
        refuses("back 2", -1, x -> x.back(2));
    }

    private static void refusedByMinusTwo() {
        DUE.sentence("-2 there is no such BOAT, IMAGE");
        int[] noBoats = {-1, 2, LOW, HIGH};
        for (int w : noBoats) {
            refuses("boat " + w, -2, x -> x.boat(w, 1, 1, 1));
            refuses("leg of " + w, -2, x -> x.leg(w, 1, 1, 1));
            refuses("heard by " + w, -2, x -> x.heard(w, 1, 1));
            refuses("echo by " + w, -2, x -> x.echo(w, 1, 1));
        }
        refuses("back to what was not kept", -2, x -> x.back(1));
        refuses("back to nothing", new HullEars(), new HullEars(), -2, x -> x.back(0));
        refuses("back to nothing", new HullEars(), new HullEars(), -2, x -> x.back(1));
    }

    private static void refusedByMinusThree() {
        DUE.sentence("-3 a LEG that is not later");
        refuses("leg at the same bell", some(), some(), -3, x -> x.leg(0, 8, 3, 3));
        refuses("leg at an earlier one", some(), some(), -3, x -> x.leg(0, 7, 3, 3));
        refuses("leg at 0", some(), some(), -3, x -> x.leg(1, 0, 3, 3));
        refuses("leg when all are there", full(), full(), -3, x -> x.leg(0, 0, 3, 3));
    }

    private static void refusedByMinusFive() {
        DUE.sentence("-5 no room");
        List<ToLongFunction<HullEars>> calls = List.of(x -> x.leg(0, 23, 1, 1), x -> x.leg(1, 23, 1, 1),
            x -> x.heard(0, 1, 1), x -> x.heard(1, 1, 1), x -> x.echo(0, 1, 1), x -> x.echo(1, 1, 1),
            x -> x.wreck(1, 1), x -> x.shoal(1, 1, 1, 1, 1), x -> x.guess(1, 1, 1, 1), x -> x.offer(1, 1),
            x -> x.beat(1), x -> x.cell(1, 1));
        for (int i = 0; i < calls.size(); i++) {
            refuses("full " + i, full(), full(), -5, calls.get(i));
        }
    }

    private static HullEars cut(HullEars x) {
        x.end(0);
        return x;
    }

    private static void rowRefused() {
        DUE.sentence("-6 a TEXT, a ROW that can't be");
        refuses("row", cut(some()), cut(some()), -6, HullEars::row);
        refuses("row", cut(full()), cut(full()), -6, HullEars::row);
        refuses("row of a new one", new HullEars(), new HullEars(), -6, HullEars::row);
        HullEars x = new HullEars();
        Due.type(x, "\u0009\u0009\u0009\u0009");
        x.row();
        DUE.same("torn", x.torn(), 2);
        DUE.same("row", x.row(), -6);
        DUE.same("torn stays", x.torn(), 2);
    }

    /** The tape and its fault are all that a law that can't be changes. */
    private static void lawRefused() {
        DUE.sentence("-6 (blanks alone: FAULT at the end; the one before stays)");
        String[] texts = {"", " ", "ear", "ear 1;", "ear 1001", "noise 1;loss 2;ear 3 if", "x"};
        for (String text : texts) {
            HullEars one = cut(some());
            HullEars twin = cut(some());
            int[] was = refusals(one);
            DUE.same("law " + text, Due.law(one, text), -6);
            int[] is = refusals(one);
            for (int i = 0; i < 5; i++) {
                DUE.same("counted", is[i], was[i] + (i == 4 ? 1 : 0));
            }
            DUE.same("status", is[5], -6);
            DUE.yes("fault", one.fault() >= 0);
            DUE.same("the tape is empty", one.count(8), 0);
            List<String> changed = Probe.of(one);
            List<String> stayed = Probe.of(twin);
            changed.removeIf(s -> s.startsWith("fault"));
            stayed.removeIf(s -> s.startsWith("fault"));
            DUE.same("all else stays", Probe.differences("law " + text, changed, stayed), 0);
        }
    }

    private static void tapeNotTaken() {
        DUE.sentence("NONE, if there would be more than 400");
        HullEars one = fullTape();
        HullEars twin = fullTape();
        asks("feed", one, twin, -1, x -> x.feed(1, 2, 3, 4, 5));
        DUE.sentence("NONE, if it has not so many, or n is below 0");
        int[] wrong = {-1, 6, 400, 401, LOW, HIGH};
        for (int w : wrong) {
            asks("end " + w, some(), some(), -1, x -> x.end(w));
        }
    }

    private static HullEars fullTape() {
        HullEars x = some();
        x.end(0);
        Due.type(x, "ear 1" + "+1".repeat(20) + " ".repeat(348) + "+1");
        x.feed(0, 0, 0, 0, 0);
        x.end(381);
        return x;
    }

    /** What a question leaves: all, and the refusals and the status as well. */
    private static void asks(String what, HullEars one, HullEars twin, long due, ToLongFunction<HullEars> call) {
        one.leg(0, 0, 0, 0);
        twin.leg(0, 0, 0, 0);
        int[] was = refusals(one);
        DUE.same(what, call.applyAsLong(one), due);
        int[] is = refusals(one);
        for (int i = 0; i < 6; i++) {
            DUE.same(what + " is no refusal " + i, is[i], was[i]);
        }
        DUE.same(what + " left all as it was", Probe.differences(what, Probe.of(one), Probe.of(twin)), 0);
    }

    private static void vain(String what, long due, ToLongFunction<HullEars> call) {
        asks(what, some(), some(), due, call);
    }

    private static void questionsInVain() {
        DUE.sentence("NONE");
        int[] wrong = {-1, 999, LOW, HIGH};
        for (int w : wrong) {
            vain("where", -1000, x -> x.where(w, 0, 0));
            vain("where", -1000, x -> x.where(0, w, 0));
            vain("where", -1000, x -> x.where(0, 0, w));
            vain("reaches", -1, x -> x.reaches(0, 0, w));
            vain("bearing", -1, x -> x.bearing(w == 999 ? 1001 : w == -1 ? -1001 : w, 0));
            vain("known", -1, x -> x.known(0, w));
            vain("known", -1, x -> x.known(w, 0));
            vain("run", -1000, x -> x.run(w == 999 ? 50176 : w, 0));
            vain("run", -1000, x -> x.run(0, w));
            vain("span", -1000, x -> x.span(w, 0));
            vain("misses", -1, x -> x.misses(w, 0, 0, 0));
            vain("alone", -1000, x -> x.alone(0, w));
            vain("within", -1, x -> x.within(0, 0, 0, w));
            vain("least", -1, x -> x.least(w));
            vain("better", -1, x -> x.better(w));
            vain("parts", -1, x -> x.parts(0, 1, w));
            vain("turn", -1, x -> x.turn(w, 1));
            vain("heardBy", -1, x -> x.heardBy(0, w, 0));
            vain("silent", -1, x -> x.silent(0, 1, w == 999 ? 60001 : w));
            vain("traces", -1, x -> x.traces(w));
            vain("next", -1, x -> x.next(w));
            vain("sure", -1, x -> x.sure(0, w));
            vain("watch", -1, x -> x.watch(w, 0));
            vain("cross", -1, x -> x.cross(0, w, 0));
            vain("pairings", -1, x -> x.pairings(w));
            vain("ghost", -1, x -> x.ghost(0, 0, w));
            vain("screw", -1, x -> x.screw(w, 0));
            vain("tells", -10000000, x -> x.tells(0, 0, w, 0));
            vain("hears", -1, x -> x.hears(w, 0));
            vain("search", -1, x -> x.search(w, 0));
            vain("looks", -1, x -> x.looks(w, 0));
            vain("count", -1, x -> x.count(w));
        }
    }

    /** A question that has an answer changes nothing either, whatever it is. */
    private static void questions() {
        DUE.sentence("Nothing is promised beyond the answers and state changes described above");
        List<ToLongFunction<HullEars>> calls = List.of(x -> x.where(0, 9, 2), x -> x.reaches(9, 0, 200),
            x -> x.bearing(-7, 5), x -> x.known(0, 3), HullEars::torn, HullEars::fault, HullEars::runs,
            x -> x.run(2, 3), x -> x.span(9, 1), x -> x.misses(5, 5, -1, 2), x -> x.alone(3, 1),
            x -> x.within(9, 9, 9, 9), x -> x.least(2), x -> x.better(1), x -> x.parts(9, 9, 1), x -> x.turn(9, 9),
            x -> x.heardBy(9, 9, 1), x -> x.silent(9, 9, 9), x -> x.traces(1), x -> x.next(3), x -> x.sure(0, 2),
            x -> x.watch(1, 3), x -> x.cross(6, 0, 0), x -> x.pairings(6), x -> x.ghost(6, 0, 0), HullEars::screws,
            x -> x.screw(0, 0), x -> x.tells(1, 9, 99, 0), x -> x.hears(1, 9), x -> x.search(6, 0),
            x -> x.looks(6, 1), x -> x.count(7), HullEars::status);
        for (int i = 0; i < calls.size(); i++) {
            HullEars other = some();
            other.leg(0, 0, 0, 0);
            asks("question " + i, some(), some(), calls.get(i).applyAsLong(other), calls.get(i));
        }
    }
}
