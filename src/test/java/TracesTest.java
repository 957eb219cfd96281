/** Promises 35 to 37: traces, joined in the fewest ways. */
public final class TracesTest {
    private static final Due DUE = new Due("TracesTest");

    public static void main(String[] args) {
        none();
        edges();
        roundTheRose();
        othersGiveWay();
        firstOfFewest();
        knownOnesToo();
        long24();
        DUE.finish();
    }

    private static void none() {
        HullEars x = new HullEars();
        DUE.same("P35", x.traces(0), 0);
        DUE.same("P35", x.traces(1), 0);
        DUE.same("P35", x.traces(2), -1);
        DUE.same("P35", x.traces(-1), -1);
        DUE.same("P36", x.next(0), -1);
        DUE.same("P36", x.next(-1), -1);
        DUE.same("P37", x.sure(0, 1), -1);
        x.heard(0, 1, 1);
        DUE.same("P35", x.traces(0), 1);
        DUE.same("P37 the same one", x.sure(0, 0), -1);
        DUE.same("P37", x.sure(-1, 0), -1);
        DUE.same("P37", x.sure(0, -1), -1);
        DUE.same("P37", x.sure(0, 1), -1);
        DUE.same("P37", x.sure(1, 0), -1);
    }

    private static void edges() {
        HullEars x = new HullEars();
        x.heard(0, 4, 10);
        x.heard(0, 8, 34);
        DUE.same("P35 just joined", x.traces(0), 1);
        DUE.same("P36", x.next(0), 1);
        DUE.same("P37", x.sure(0, 1), 2);
        DUE.same("P37 not backwards", x.sure(1, 0), 0);
        x.terms(5, 5);
        DUE.same("P35 too much of a turn", x.traces(0), 2);
        x.terms(5, 6);
        x.terms(4, 3);
        DUE.same("P35 too long a gap", x.traces(0), 2);
        x.heard(0, 8, 34);
        x.terms(4, 23);
        x.terms(5, 40);
        DUE.same("P35 not at one bell", x.traces(0), 2);
        DUE.same("P37", x.sure(1, 2), 0);
        DUE.same("P37 either", x.sure(0, 1), 1);
        DUE.same("P37 either", x.sure(0, 2), 1);
        x.heard(1, 5, 10);
        DUE.same("P35 each boat for itself", x.traces(0), 2);
        DUE.same("P35", x.traces(1), 1);
        DUE.same("P37 of two boats", x.sure(0, 3), 0);
    }

    private static void roundTheRose() {
        HullEars x = new HullEars();
        x.heard(1, 0, 78);
        x.heard(1, 1, 4);
        DUE.same("P35 six round", x.traces(1), 1);
        x.terms(5, 5);
        DUE.same("P35 six round", x.traces(1), 2);
        x.terms(5, 0);
        x.heard(1, 3, 4);
        DUE.same("P35 no turn at all", x.traces(1), 2);
        DUE.same("P36", x.next(1), 2);
    }

    private static void othersGiveWay() {
        HullEars x = new HullEars();
        x.terms(5, 2);
        x.heard(0, 0, 10);
        x.heard(0, 0, 8);
        x.heard(0, 1, 9);
        x.heard(0, 1, 12);
        // 1 can be followed by 2 alone, so 0 must take 3.
        DUE.same("P35", x.traces(0), 2);
        DUE.same("P36", x.next(0), 3);
        DUE.same("P36", x.next(1), 2);
        DUE.same("P36", x.next(2), -1);
        DUE.same("P36", x.next(3), -1);
        DUE.same("P37", x.sure(0, 3), 2);
        DUE.same("P37", x.sure(0, 2), 0);
        DUE.same("P37", x.sure(1, 2), 2);
    }

    private static void firstOfFewest() {
        HullEars x = new HullEars();
        // Told backwards: what is told later may be heard earlier.
        x.heard(0, 6, 20);
        x.heard(0, 4, 20);
        x.heard(0, 2, 20);
        x.heard(0, 2, 20);
        DUE.same("P35", x.traces(0), 2);
        // 0 has none. 1: next 0. Then 2: not 0, so 1. 3: 0 and 1 are taken: none.
        DUE.same("P36", x.next(0), -1);
        DUE.same("P36", x.next(1), 0);
        DUE.same("P36", x.next(2), 1);
        DUE.same("P36", x.next(3), -1);
        DUE.same("P37", x.sure(1, 0), 1);
        DUE.same("P37", x.sure(2, 0), 1);
        DUE.same("P37", x.sure(2, 1), 1);
        DUE.same("P37", x.sure(3, 1), 1);
        // None stands behind all: the first takes one, if that is as good.
        HullEars y = new HullEars();
        y.heard(0, 0, 20);
        y.heard(0, 0, 20);
        y.heard(0, 1, 20);
        DUE.same("P36", y.next(0), 2);
        DUE.same("P36", y.next(1), -1);
        DUE.same("P37", y.sure(0, 2), 1);
        DUE.same("P37", y.sure(1, 2), 1);
    }

    private static void knownOnesToo() {
        HullEars x = new HullEars();
        x.wreck(0, 9);
        x.heard(0, 0, 10);
        x.heard(0, 1, 10);
        DUE.same("known", x.count(7), 0);
        DUE.same("P35", x.traces(0), 1);
        DUE.same("P36", x.next(0), 1);
    }

    private static void long24() {
        HullEars x = new HullEars();
        x.terms(5, 40);
        for (int i = 0; i < 24; i++) {
            x.heard(0, 23 - i, i);
        }
        DUE.same("P35 one long trace", x.traces(0), 1);
        for (int i = 0; i < 24; i++) {
            DUE.same("P36 " + i, x.next(i), i - 1);
        }
        DUE.same("P37", x.sure(20, 19), 2);
        // 12 and 12 that can all be joined.
        HullEars y = new HullEars();
        for (int i = 0; i < 24; i++) {
            y.heard(1, i % 2, 40);
        }
        DUE.same("P35", y.traces(1), 12);
        DUE.same("P36", y.next(0), 1);
        DUE.same("P36", y.next(22), 23);
        DUE.same("P37", y.sure(0, 23), 1);
    }
}
