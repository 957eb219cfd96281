import java.util.ArrayList;
import java.util.List;

/**
 * All that can be asked of an object, as a list of calls with their answers, so that two objects
 * can be told from one another. Some 370 calls; what can't be asked is brought to light by changes
 * at the end.
 */
final class Probe {
    private final HullEars ears;
    private final List<String> answers = new ArrayList<>();

    private Probe(HullEars ears) {
        this.ears = ears;
    }

    static List<String> of(HullEars ears) {
        Probe probe = new Probe(ears);
        probe.counts();
        probe.boats();
        probe.marks();
        probe.runs();
        probe.offers();
        probe.traces();
        probe.crossings();
        probe.lawAndCells();
        probe.images(0, 1);
        return probe.answers;
    }

    /** How many answers differ, the first of them printed. */
    static int differences(String what, List<String> one, List<String> other) {
        int found = one.size() == other.size() ? 0 : 1;
        for (int i = 0; i < one.size() && i < other.size(); i++) {
            if (!one.get(i).equals(other.get(i))) {
                if (found == 0) System.out.println(what + ": " + one.get(i) + " against " + other.get(i));
                found++;
            }
        }
        return found;
    }

    private void note(String call, long answer) {
        answers.add(call + " is " + answer);
    }

    private void counts() {
        for (int what = 0; what <= 16; what++) {
            if (what < 9 || what > 13) note("count " + what, ears.count(what));
        }
        note("torn", ears.torn());
        note("fault", ears.fault());
    }

    private void boats() {
        int[] bells = {0, 2, 6, 13, 23};
        for (int bell : bells) {
            for (int what = 0; what < 3; what++) {
                note("where 0 " + bell + " " + what, ears.where(0, bell, what));
                note("where 1 " + bell + " " + what, ears.where(1, bell, what));
            }
        }
        for (int from = 0; from <= 9; from += 3) {
            for (int range = 1; range <= 9; range += 4) {
                note("reaches " + from + " in " + range, ears.reaches(from, 4, range));
            }
        }
    }

    private void marks() {
        for (int k = 0; k < 24; k++) {
            note("known 0 " + k, ears.known(0, k));
        }
        for (int k = 0; k < 12; k++) {
            note("known 1 " + k, ears.known(1, k));
        }
        for (int watch = 0; watch < 6; watch++) {
            for (int what = 0; what < 4; what++) {
                note("watch " + watch + " " + what, ears.watch(watch, what));
            }
        }
    }

    private void runs() {
        note("runs", ears.runs());
        for (int what = 0; what < 4; what++) {
            note("run 3 " + what, ears.run(3, what));
            note("span 7 " + what, ears.span(7, what));
        }
        note("alone", ears.alone(5, 0));
        note("within", ears.within(3, 12, 12, 6));
        for (int what = 0; what < 3; what++) {
            note("least " + what, ears.least(what));
        }
        for (int k = 0; k < 9; k++) {
            note("better " + k, ears.better(k));
            note("misses " + k, ears.misses(3 * k, 4 + 2 * k, k % 4, -1));
        }
    }

    private void offers() {
        for (int k = 0; k < 9; k++) {
            note("parts " + k, ears.parts(3, 2, k));
            note("heardBy " + k, ears.heardBy(3, 2, k));
        }
        note("turn", ears.turn(3, 2));
        note("silent", ears.silent(3, 2, 400));
    }

    private void traces() {
        note("traces 0", ears.traces(0));
        note("traces 1", ears.traces(1));
        for (int k = 0; k < 24; k++) {
            note("next " + k, ears.next(k));
            note("sure " + k, ears.sure(k, (k + 5) % 24));
        }
    }

    private void crossings() {
        for (int bell = 0; bell < 24; bell += 6) {
            note("pairings " + bell, ears.pairings(bell));
            note("cross " + bell, ears.cross(bell, 0, 0));
            note("ghost " + bell, ears.ghost(bell, 0, 0));
        }
        note("screws", ears.screws());
        note("screw", ears.screw(0, 0) * 10 + ears.screw(0, 1));
    }

    private void lawAndCells() {
        for (int what = 0; what < 3; what++) {
            note("tells 0 " + what, ears.tells(0, 6, 9, what));
            note("tells 1 " + what, ears.tells(1, 13, 30, what));
        }
        note("hears 0", ears.hears(0, 6));
        note("hears 1", ears.hears(1, 13));
        note("search", ears.search(5, 0));
        note("search", ears.search(5, 1));
        for (int cell = 0; cell < 7; cell++) {
            note("looks " + cell, ears.looks(6, cell));
        }
    }

    /** Here things are changed to be seen: the tape, terms, layers, legs, then those of the images. */
    private void images(int... images) {
        note("law of the tape", ears.law());
        note("its fault", ears.fault());
        note("what it tells", ears.tells(0, 0, 0, 2));
        hidden("now");
        for (int k : images) {
            note("back " + k, ears.back(k));
            for (int what = 0; what <= 7; what++) {
                note("image " + k + " count " + what, ears.count(what));
            }
            hidden("image " + k);
        }
    }

    private void hidden(String where) {
        int[] good = {1, 1, 0, 5, 4, 6};
        for (int what = 0; what < 6; what++) {
            note(where + " term " + what, ears.terms(what, good[what]));
        }
        for (int day = 0; day <= 2; day++) {
            note(where + " day", ears.day(day));
            for (int depth = 1; depth <= 9; depth += 4) {
                note(where + " layer " + day + " " + depth, ears.layer(depth, 100));
            }
        }
        note(where + " legs 0", ears.boat(0, 0, 0, 5));
        note(where + " legs 1", ears.boat(1, 0, 0, 5));
    }
}
