/** The bounds that promises 18 to 29 tell, each sentence with a test of its own. */
public final class AtATimeBoundsTest {
    private static final int NONE = Sentences.NONE;
    private static final int LEAST = Sentences.LEAST;
    private static final int MOST = Sentences.MOST;
    private static final Sentences S = new Sentences();

    public static void main(String[] args) {
        place();
        apart();
        nearest();
        lonely();
        hole();
        alone();
        crowd();
        ranked();
        laps();
        closest();
        between();
        passed();
        S.finish(18, 29);
    }

    private static void place() {
        S.says(18, "NONE: no such one.");
        S.noSuchOne("place", (x, i) -> x.place(i, 1, 4, true));
        S.noSuchOne("place at 0", (x, i) -> x.place(i, 0, 1, false));
        S.noSuchTime("place", (x, p, q) -> x.place(0, p, q, false));
    }

    private static void apart() {
        S.says(19, "NONE: no such ones");
        S.noSuchOnes("apart", (x, i, j) -> x.apart(i, j, 1, 7, true));
        S.noSuchTime("apart", (x, p, q) -> x.apart(0, 2, p, q, false));

        S.says(19, "both are one");
        S.bothAreOne("apart", (x, i, j) -> x.apart(i, j, 1, 7, false));
        // Two at one place are not one.
        S.dueFraction("apart of like ones", lower -> Checks.with(3, 3, 3, 3).apart(0, 1, 1, 7, lower), 0, 1);
    }

    private static void nearest() {
        S.says(20, "NONE: no such one.");
        S.noSuchOne("nearest", (x, i) -> x.nearest(i, 1, 7, true));
        S.noSuchTime("nearest", (x, p, q) -> x.nearest(2, p, q, false));
    }

    private static void lonely() {
        S.says(21, "RUNNERS that are LONELY (bits)");
        S.due("lonely of none", new RingRunners().lonely(0, 1), 0);
        S.due("lonely of one", Checks.with(3, 3).lonely(0, 1), 1);
        S.due("lonely of the last of six", Checks.with(0, 0, 0, 0, 0, 0, 0, 0, 0, 0, 0, 2).lonely(0, 1), 32);
        S.due("lonely of six", Checks.with(0, 0, 0, 2, 0, 4, 0, 6, 0, 8, 0, 10).lonely(0, 1), 63);
        S.due("lonely of six at one place", Checks.with(1, 0, 2, 0, 3, 0, 4, 0, 5, 0, 6, 0).lonely(9, 1), 0);

        S.says(21, "NONE: no such TIME.");
        S.noSuchTime("lonely", (x, p, q) -> x.lonely(p, q));
        S.due("lonely of none at no time", new RingRunners().lonely(10000, 1), NONE);
        S.due("lonely of one at no time", Checks.with(3, 3).lonely(0, 0), NONE);
    }

    private static void hole() {
        S.says(22, "(1, if all are at one PLACE)");
        S.dueFraction("hole of one", lower -> Checks.with(3, 3).hole(5, 7, lower), 1, 1);
        S.dueFraction("hole of two at one place", lower -> Checks.with(3, 3, 4, 3).hole(5, 1, lower), 1, 1);
        S.dueFraction("hole of six at one place",
            lower -> Checks.with(0, 7, 1, 7, 2, 7, 3, 7, 4, 7, 40, 7).hole(0, 5, lower), 1, 1);
        S.dueFraction("hole beside 1 by 12", lower -> Checks.with(3, 3, 3, 4, 3, 3).hole(5, 1, lower), 11, 12);
        S.dueFraction("hole over the ring's seam", lower -> Checks.with(3, 5, 3, 7).hole(0, 1, lower), 5, 6);
        S.dueFraction("hole of six all round",
            lower -> Checks.with(0, 0, 0, 2, 0, 4, 0, 6, 0, 8, 0, 10).hole(5, 1, lower), 1, 6);

        S.says(22, "NONE: no such TIME");
        S.noSuchTime("hole", (x, p, q) -> x.hole(p, q, false));

        S.says(22, "no RUNNERS");
        S.due("hole of none", new RingRunners().hole(0, 1, false), NONE);
        S.due("hole of none, lower", new RingRunners().hole(5, 7, true), NONE);
    }

    private static void alone() {
        S.says(23, "RUNNERS at whose PLACE no other one is (bits)");
        S.due("alone of none", new RingRunners().alone(0, 1), 0);
        S.due("alone of one", Checks.with(3, 3).alone(0, 1), 1);
        S.due("alone of two at one place", Checks.with(3, 3, 4, 3).alone(1, 1), 0);
        S.due("alone of the last of six", Checks.with(0, 0, 0, 0, 0, 0, 0, 0, 0, 0, 0, 11).alone(0, 1), 32);
        S.due("alone of six", Checks.with(0, 0, 0, 1, 0, 2, 0, 3, 0, 4, 0, 11).alone(0, 1), 63);
        // However near, beside it is not there.
        S.due("alone at 998 by 999", Checks.with(0, 0, 1, 0).alone(998, 999), 3);

        S.says(23, "NONE: no such TIME.");
        S.noSuchTime("alone", (x, p, q) -> x.alone(p, q));
        S.due("alone of none at no time", new RingRunners().alone(0, 1000), NONE);
    }

    private static void crowd() {
        S.says(24, "NONE: no such TIME");
        S.noSuchTime("crowd", (x, p, q) -> x.crowd(p, q));

        S.says(24, "no RUNNERS");
        S.due("crowd of none", new RingRunners().crowd(0, 1), NONE);
        S.due("crowd of one", Checks.with(3, 3).crowd(0, 1), 1);
        S.due("crowd of six at one place", Checks.with(0, 7, 1, 7, 2, 7, 3, 7, 4, 7, 40, 7).crowd(1, 1), 6);
        S.due("crowd of two places", Checks.with(0, 7, 0, 8, 0, 8, 0, 7, 0, 8, 0, 1).crowd(1, 1), 3);
    }

    private static void ranked() {
        S.says(25, "those at one PLACE by numbers");
        RingRunners x = Checks.with(3, 5, 4, 5, 5, 0, 6, 5, 7, 0, 8, 11);
        int[] order = {2, 4, 0, 1, 3, 5};
        for (int k = 0; k < 6; k++) {
            S.due("ranked at 0, " + k, x.ranked(0, 1, k), order[k]);
            S.due("ranked at 1, " + k, x.ranked(1, 1, k), order[k]);
        }
        // A place is told from 0 on: what has come round is ahead of those that stand.
        RingRunners seam = Checks.with(0, 11, 1, 11, 0, 0);
        S.due("ranked at 1 by 12, 0", seam.ranked(1, 12, 0), 1);
        S.due("ranked at 1 by 12, 1", seam.ranked(1, 12, 1), 2);
        S.due("ranked at 1 by 12, 2", seam.ranked(1, 12, 2), 0);
        S.due("ranked at 1 by 13, 2", seam.ranked(1, 13, 2), 1);

        S.says(25, "NONE: no such k, TIME.");
        S.noSuchOne("ranked", (y, k) -> y.ranked(1, 7, k));
        S.noSuchTime("ranked", (y, p, q) -> y.ranked(p, q, 0));
        S.due("ranked of none at no time", new RingRunners().ranked(0, 0, 0), NONE);
    }

    private static void laps() {
        S.says(26, "(from 0 on the RING on, START too)");
        S.due("laps at 0", Checks.with(1, 11).laps(0, 0, 1), 0);
        S.due("laps at 83 by 999", Checks.with(1, 11).laps(0, 83, 999), 0);
        S.due("laps at 1 by 12", Checks.with(1, 11).laps(0, 1, 12), 1);
        S.due("laps at 13 by 12", Checks.with(1, 11).laps(0, 13, 12), 2);
        S.due("laps at 998 by 999", Checks.with(1, 0).laps(0, 998, 999), 0);
        S.due("laps at 1", Checks.with(1, 0).laps(0, 999, 999), 1);
        S.due("laps, still", Checks.with(0, 11).laps(0, 9999, 1), 0);
        S.due("laps at 9999", Checks.with(40, 11).laps(0, 9999, 1), 399960);
        S.due("laps at 9999 by 999", Checks.with(40, 11).laps(0, 9999, 999), 401);

        S.says(26, "NONE: no such one.");
        S.noSuchOne("laps", (x, i) -> x.laps(i, 1, 7));
        S.noSuchTime("laps", (x, p, q) -> x.laps(0, p, q));
    }

    private static void closest() {
        S.says(27, "what 0: 10 times the lesser number and the other one, of several the least");
        S.due("closest of two", Checks.with(0, 0, 0, 6).closest(0, 1, 0), 1);
        S.due("closest of four, all like", Checks.with(0, 0, 0, 3, 0, 6, 0, 9).closest(0, 1, 0), 1);
        S.due("closest, 3 and 12 like", Checks.with(0, 0, 0, 4, 0, 6, 0, 10).closest(0, 1, 0), 3);
        S.due("closest, 13 and 23 like", Checks.with(0, 0, 0, 3, 0, 7, 0, 5).closest(0, 1, 0), 13);
        S.due("closest of six at one place", Checks.with(0, 0, 1, 0, 2, 0, 3, 0, 4, 0, 5, 0).closest(0, 1, 0), 1);
        S.due("closest, the last two of six", Checks.with(0, 0, 0, 2, 0, 4, 0, 6, 0, 8, 0, 9).closest(0, 1, 0), 45);
        S.due("closest, the ends of six", Checks.with(0, 0, 0, 2, 0, 4, 0, 6, 0, 8, 0, 11).closest(0, 1, 0), 5);

        S.says(27, "APART 1 its upper, 2 its lower part");
        S.dueFraction("closest, the last two of six",
            lower -> Checks.with(0, 0, 0, 2, 0, 4, 0, 6, 0, 8, 0, 9).closest(0, 1, lower ? 2 : 1), 1, 12);
        S.dueFraction("closest, over the way", lower -> Checks.with(0, 0, 0, 6).closest(0, 1, lower ? 2 : 1), 1, 2);
        S.dueFraction("closest, at one place", lower -> Checks.with(0, 0, 1, 0).closest(5, 1, lower ? 2 : 1), 0, 1);

        S.says(27, "NONE: no such TIME");
        for (int what = 0; what <= 2; what++) {
            int which = what;
            S.noSuchTime("closest, " + what + ",", (x, p, q) -> x.closest(p, q, which));
        }

        S.says(27, "NONE: no such TIME, what");
        for (int what : new int[] {-1, 3, LEAST, MOST}) {
            S.due("closest, " + what, Sentences.three().closest(1, 7, what), NONE);
        }
        S.due("closest, 1", Checks.with(0, 0, 0, 5).closest(1, 7, 1), 5);
        S.due("closest, 2", Checks.with(0, 0, 0, 5).closest(1, 7, 2), 12);

        S.says(27, "fewer than two");
        for (int what = 0; what <= 2; what++) {
            S.due("closest of none, " + what, new RingRunners().closest(1, 7, what), NONE);
            S.due("closest of one, " + what, Checks.with(3, 3).closest(1, 7, what), NONE);
            S.dueTold("closest of two, " + what, Checks.with(3, 3, 4, 4).closest(1, 7, what));
        }
    }

    private static void between() {
        S.says(28, "The way from a RUNNER on (as PLACES rise, round) to the next one");
        RingRunners x = Checks.with(0, 11, 0, 1, 0, 4);
        S.dueFraction("between, round", lower -> x.between(0, 0, 1, lower), 1, 6);
        S.dueFraction("between", lower -> x.between(1, 0, 1, lower), 1, 4);
        S.dueFraction("between", lower -> x.between(2, 0, 1, lower), 7, 12);
        S.dueFraction("between, nearly round", lower -> Checks.with(0, 1, 0, 0).between(0, 0, 1, lower), 11, 12);

        S.says(28, "(0: one is at its PLACE, too; 1: there is no other one)");
        S.dueFraction("between of one", lower -> Checks.with(3, 3).between(0, 1, 7, lower), 1, 1);
        S.dueFraction("between of like ones", lower -> Checks.with(3, 3, 3, 3).between(0, 1, 7, lower), 0, 1);
        S.dueFraction("between of like ones", lower -> Checks.with(3, 3, 3, 3).between(1, 1, 7, lower), 0, 1);
        S.dueFraction("between at 1", lower -> Checks.with(0, 0, 0, 1, 1, 0).between(0, 1, 1, lower), 0, 1);
        S.dueFraction("between at 998 by 999", lower -> Checks.with(0, 0, 1, 0).between(0, 998, 999, lower), 998, 999);

        S.says(28, "NONE: no such one.");
        S.noSuchOne("between", (y, i) -> y.between(i, 1, 7, true));
        S.noSuchTime("between", (y, p, q) -> y.between(0, p, q, false));
    }

    private static void passed() {
        S.says(29, "How many TIMES from 0 to that TIME (both)");
        RingRunners x = Checks.with(0, 0, 1, 0, 1, 6, 40, 0);
        S.due("passed at 0", x.passed(0, 1, 0, 1), 1);
        S.due("passed at 998 by 999", x.passed(0, 1, 998, 999), 1);
        S.due("passed at 1", x.passed(0, 1, 1, 1), 2);
        S.due("passed at 1, the other way", x.passed(1, 0, 1, 1), 2);
        S.due("passed at 0, apart", x.passed(0, 2, 0, 1), 0);
        S.due("passed at 499 by 999", x.passed(0, 2, 499, 999), 0);
        S.due("passed at 1 by 2", x.passed(0, 2, 1, 2), 1);
        S.due("passed at 1", x.passed(2, 0, 1, 1), 1);
        S.due("passed at 9999", x.passed(0, 3, 9999, 1), 399961);
        S.due("passed at 9999", x.passed(2, 0, 9999, 1), 9999);

        S.says(29, "-2: always");
        S.due("passed of like ones", Checks.with(3, 3, 3, 3).passed(0, 1, 0, 1), -2);
        S.due("passed of like ones", Checks.with(3, 3, 3, 3).passed(1, 0, 9999, 999), -2);
        S.due("passed of none alike", Checks.with(3, 3, 3, 4).passed(0, 1, 9999, 1), 0);
        S.due("passed of like starts", Checks.with(3, 3, 4, 3).passed(0, 1, 0, 1), 1);

        S.says(29, "NONE: no such ones");
        S.noSuchOnes("passed", (y, i, j) -> y.passed(i, j, 1, 7));
        S.noSuchTime("passed", (y, p, q) -> y.passed(0, 1, p, q));

        S.says(29, "both are one");
        S.bothAreOne("passed", (y, i, j) -> y.passed(i, j, 1, 7));
    }
}
