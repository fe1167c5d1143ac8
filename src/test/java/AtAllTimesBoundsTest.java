/** The bounds that promises 30 to 47 tell, each sentence with a test of its own. */
public final class AtAllTimesBoundsTest {
    private static final int NONE = Sentences.NONE;
    private static final int LEAST = Sentences.LEAST;
    private static final int MOST = Sentences.MOST;
    private static final Sentences S = new Sentences();

    public static void main(String[] args) {
        best();
        tight();
        never();
        stretches();
        stretch();
        hours();
        next();
        hoursBy();
        both();
        someone();
        firsts();
        tights();
        meetsNext();
        meets();
        meeting();
        meetings();
        gather();
        period();
        S.finish(30, 47);
    }

    /** All meet at 0; 0 and 2 are lonely at 1 by 3 and 2 by 3, 1 from the one to the other. */
    private static RingRunners meeting3() {
        return Checks.with(0, 0, 1, 0, 2, 0);
    }

    /** 0 is never lonely, 1 from 1 by 3 to 2 by 3, 2 up to 1 by 6 and from 5 by 6 on. */
    private static RingRunners split() {
        return Checks.with(0, 0, 1, 0, 1, 6);
    }

    private static void best() {
        S.says(30, "NONE: no such ones.");
        for (int what = 0; what <= 3; what++) {
            int which = what;
            S.noSuchOne("best, " + what + ",", (x, i) -> x.best(i, which));
        }
        for (int what : new int[] {-1, 4, LEAST, MOST}) {
            S.due("best(0, " + what + ")", meeting3().best(0, what), NONE);
            S.due("best(3, " + what + ")", meeting3().best(3, what), NONE);
        }
    }

    private static void tight() {
        S.says(31, "0: a RUNNER is never LONELY");
        S.due("tight of like ones", Checks.with(5, 2, 5, 2).tight(0), 0);
        S.due("tight, 5 by 12 of two", Checks.with(5, 0, 5, 5).tight(0), 0);
        S.due("tight, 3 by 12 of three", Checks.with(5, 0, 5, 3, 5, 7).tight(0), 0);
        S.due("tight, 2 by 12 of five", Checks.with(5, 0, 5, 2, 5, 5, 5, 7, 5, 10).tight(0), 0);
        S.due("tight, 1 by 12 of six", Checks.with(5, 0, 5, 1, 5, 5, 5, 7, 5, 9, 5, 10).tight(0), 0);

        S.says(31, "1: BEST of it is 1 by K");
        S.due("tight, 1 by 2 of two", Checks.with(5, 0, 5, 6).tight(0), 1);
        S.due("tight, 1 by 2 of two at a time", Checks.with(5, 0, 39, 0).tight(0), 1);
        S.due("tight, 1 by 3 of three", Checks.with(5, 0, 5, 4, 5, 8).tight(0), 1);
        S.due("tight, 1 by 4 of four", Checks.with(5, 0, 5, 3, 5, 6, 5, 9).tight(0), 1);
        S.due("tight, 1 by 6 of six", Checks.with(5, 0, 5, 2, 5, 4, 5, 6, 5, 8, 5, 10).tight(0), 1);

        S.says(31, "2: it is more (K 1: 2)");
        S.due("tight of one", Checks.with(5, 2).tight(0), 2);
        S.due("tight, 5 by 12 of three", Checks.with(5, 0, 5, 5, 5, 7).tight(0), 2);
        S.due("tight, 3 by 12 of five", Checks.with(5, 0, 5, 3, 5, 5, 5, 7, 5, 9).tight(0), 2);
        S.due("tight, 3 by 12 of six", Checks.with(5, 0, 5, 3, 5, 4, 5, 6, 5, 8, 5, 9).tight(0), 2);

        S.says(31, "NONE: no such one.");
        S.noSuchOne("tight", (x, i) -> x.tight(i));
    }

    private static void never() {
        S.says(32, "RUNNERS that are never LONELY (bits)");
        S.due("never of none", new RingRunners().never(), 0);
        S.due("never of one", Checks.with(3, 3).never(), 0);
        S.due("never of two", Checks.with(3, 3, 3, 8).never(), 3);
        S.due("never of two, tight", Checks.with(3, 3, 3, 9).never(), 0);
        S.due("never of six", Checks.with(3, 3, 3, 3, 3, 3, 3, 3, 3, 3, 3, 3).never(), 63);
        S.due("never, the last two of six", Checks.with(0, 0, 0, 2, 0, 4, 0, 6, 0, 8, 0, 9).never(), 48);
        S.due("never, the first of three", split().never(), 1);
    }

    private static void stretches() {
        S.says(33, "NONE: no such one.");
        S.noSuchOne("stretches", (x, i) -> x.stretches(i));
        S.due("stretches of one", Checks.with(3, 3).stretches(0), 1);
        S.due("stretches of none that is lonely", Checks.with(3, 3, 3, 3).stretches(0), 0);
    }

    private static void stretch() {
        S.says(34, "from which TIME (to false)");
        S.dueFraction("from", lower -> split().stretch(1, 0, false, lower), 1, 3);
        S.dueFraction("from, of one", lower -> Checks.with(3, 3).stretch(0, 0, false, lower), 0, 1);

        S.says(34, "to which one (to true)");
        S.dueFraction("to", lower -> split().stretch(1, 0, true, lower), 2, 3);
        S.dueFraction("to, of one", lower -> Checks.with(3, 3).stretch(0, 0, true, lower), 1, 1);

        S.says(34, "-2: there are not so many");
        for (boolean to : new boolean[] {false, true}) {
            S.due("stretch(1, 1)", split().stretch(1, 1, to, to), -2);
            S.due("stretch(1, 1)", split().stretch(1, 1, to, !to), -2);
            S.dueTold("stretch(2, 1)", split().stretch(2, 1, to, to));
            S.due("stretch(2, 2)", split().stretch(2, 2, to, to), -2);
            S.due("stretch(0, 0)", split().stretch(0, 0, to, to), -2);
            S.due("stretch(0, most)", split().stretch(0, MOST, to, to), -2);
            S.due("stretch(0, 1) of one", Checks.with(3, 3).stretch(0, 1, to, to), -2);
        }
        RingRunners many = Checks.with(0, 0, 40, 6);
        S.dueFraction("stretch(1, 40)", lower -> many.stretch(1, 40, false, lower), 1, 1);
        S.due("stretch(1, 41)", many.stretch(1, 41, false, false), -2);
        // The most that a search among all kinds has found.
        RingRunners most = Checks.with(0, 6, 40, 5, 0, 2, 40, 3, 0, 6, 0, 10);
        S.due("stretches(1)", most.stretches(1), 120);
        S.dueTold("stretch(1, 119)", most.stretch(1, 119, true, false));
        S.due("stretch(1, 120)", most.stretch(1, 120, true, false), -2);

        S.says(34, "NONE: no such one");
        S.noSuchOne("stretch", (x, i) -> x.stretch(i, 0, true, true));
        S.noSuchOne("stretch, far on,", (x, i) -> x.stretch(i, 999, false, false));

        S.says(34, "k below 0");
        for (int k : new int[] {-1, -2, LEAST}) {
            S.due("stretch(1, " + k + ")", split().stretch(1, k, false, false), NONE);
            S.due("stretch(0, " + k + ") of none", split().stretch(0, k, true, true), NONE);
        }
    }

    private static void hours() {
        S.says(35, "NONE: no such one.");
        S.noSuchOne("hours", (x, i) -> x.hours(i, true));
        S.noSuchOne("hours, upper", (x, i) -> x.hours(i, false));
        S.dueFraction("hours of one", lower -> Checks.with(3, 3).hours(0, lower), 1, 1);
        S.dueFraction("hours of none", lower -> Checks.with(3, 3, 3, 3).hours(0, lower), 0, 1);
    }

    private static void dueNext(RingRunners x, int i, int p, int q, long upper, long lower) {
        S.dueFraction("next of " + i + " at " + p + " by " + q, below -> x.next(i, p, q, below), upper, lower);
    }

    private static void next() {
        S.says(36, "The first TIME not below a TIME at which a RUNNER is LONELY");
        dueNext(Checks.with(3, 3), 0, 0, 1, 0, 1);
        dueNext(Checks.with(3, 3), 0, 9999, 999, 1111, 111);
        // Lonely from 1 by 3 to 2 by 3: both ends count, the way round to the next turn does.
        dueNext(split(), 1, 332, 999, 1, 3);
        dueNext(split(), 1, 333, 999, 1, 3);
        dueNext(split(), 1, 334, 999, 334, 999);
        dueNext(split(), 1, 666, 999, 2, 3);
        dueNext(split(), 1, 667, 999, 4, 3);
        dueNext(split(), 1, 1, 1, 4, 3);
        dueNext(split(), 1, 9999, 1, 29998, 3);
        dueNext(split(), 2, 0, 1, 0, 1);
        dueNext(split(), 2, 166, 999, 166, 999);
        dueNext(split(), 2, 167, 999, 5, 6);
        dueNext(split(), 2, 832, 999, 5, 6);
        dueNext(split(), 2, 833, 999, 833, 999);
        dueNext(split(), 2, 9999, 1, 9999, 1);
        // One time alone.
        dueNext(meeting3(), 0, 1, 3, 1, 3);
        dueNext(meeting3(), 0, 334, 999, 2, 3);
        dueNext(meeting3(), 0, 2, 3, 2, 3);
        dueNext(meeting3(), 0, 667, 999, 4, 3);
        dueNext(meeting3(), 0, 9999, 1, 29998, 3);
        // At the times 0 and 1 themselves.
        dueNext(Checks.with(0, 0, 1, 6), 0, 0, 1, 0, 1);
        dueNext(Checks.with(0, 0, 1, 6), 0, 1, 999, 1, 1);
        dueNext(Checks.with(0, 0, 1, 6), 0, 998, 999, 1, 1);
        dueNext(Checks.with(0, 0, 1, 6), 0, 1, 1, 1, 1);
        dueNext(Checks.with(0, 0, 1, 6), 0, 1000, 999, 2, 1);

        S.says(36, "-2: it never is");
        for (boolean lower : new boolean[] {false, true}) {
            S.due("next of 0 at 0", split().next(0, 0, 1, lower), -2);
            S.due("next of 0 at 9999 by 999", split().next(0, 9999, 999, lower), -2);
            S.due("next of like ones", Checks.with(3, 3, 3, 3).next(1, 5, 7, lower), -2);
        }

        S.says(36, "NONE: no such one.");
        S.noSuchOne("next", (x, i) -> x.next(i, 5, 7, true));
        S.noSuchTime("next", (x, p, q) -> x.next(0, p, q, false));
    }

    private static void hoursBy() {
        S.says(37, "NEAREST of a RUNNER is u by w or more (w 1 .. 12, u 0 .. w)");
        RingRunners still = Checks.with(5, 0, 5, 5);
        S.dueFraction("0 by 1", lower -> still.hoursBy(0, 0, 1, lower), 1, 1);
        S.dueFraction("1 by 1", lower -> still.hoursBy(0, 1, 1, lower), 0, 1);
        S.dueFraction("0 by 12", lower -> still.hoursBy(0, 0, 12, lower), 1, 1);
        S.dueFraction("5 by 12", lower -> still.hoursBy(0, 5, 12, lower), 1, 1);
        S.dueFraction("6 by 12", lower -> still.hoursBy(0, 6, 12, lower), 0, 1);
        S.dueFraction("12 by 12", lower -> still.hoursBy(0, 12, 12, lower), 0, 1);
        S.dueFraction("5 by 11", lower -> still.hoursBy(0, 5, 11, lower), 0, 1);
        S.dueFraction("4 by 11", lower -> still.hoursBy(0, 4, 11, lower), 1, 1);
        S.dueFraction("2 by 5", lower -> still.hoursBy(0, 2, 5, lower), 1, 1);
        S.dueFraction("3 by 7", lower -> still.hoursBy(0, 3, 7, lower), 0, 1);
        // It is at one half itself at a time alone, or always.
        RingRunners two = Checks.with(0, 0, 1, 0);
        S.dueFraction("1 by 2", lower -> two.hoursBy(0, 1, 2, lower), 0, 1);
        S.dueFraction("6 by 12", lower -> two.hoursBy(0, 6, 12, lower), 0, 1);
        S.dueFraction("5 by 11", lower -> two.hoursBy(0, 5, 11, lower), 1, 11);
        S.dueFraction("1 by 12", lower -> two.hoursBy(1, 1, 12, lower), 5, 6);
        S.dueFraction("1 by 2", lower -> Checks.with(5, 0, 5, 6).hoursBy(0, 1, 2, lower), 1, 1);
        // 0 or more it is even where two are at one place.
        S.dueFraction("0 by 7", lower -> Checks.with(3, 3, 3, 3).hoursBy(0, 0, 7, lower), 1, 1);
        S.dueFraction("1 by 12", lower -> Checks.with(3, 3, 3, 3).hoursBy(0, 1, 12, lower), 0, 1);

        S.says(37, "NONE: no such one");
        S.noSuchOne("hoursBy", (x, i) -> x.hoursBy(i, 1, 4, true));
        S.noSuchOne("hoursBy 0 by 1", (x, i) -> x.hoursBy(i, 0, 1, false));

        S.says(37, "out of bounds");
        for (int w : new int[] {0, -1, 13, LEAST, MOST}) {
            S.due("hoursBy 0 by " + w, still.hoursBy(0, 0, w, true), NONE);
            S.due("hoursBy 1 by " + w, still.hoursBy(0, 1, w, false), NONE);
            S.due("hoursBy w by " + w, still.hoursBy(0, w, w, false), NONE);
        }
        for (int u : new int[] {-1, 5, 12, LEAST, MOST}) {
            S.due("hoursBy " + u + " by 4", still.hoursBy(0, u, 4, true), NONE);
        }
        S.due("hoursBy 2 by 1", still.hoursBy(0, 2, 1, false), NONE);
        S.due("hoursBy 13 by 12", still.hoursBy(0, 13, 12, false), NONE);
        S.due("hoursBy -1 by 12", still.hoursBy(0, -1, 12, false), NONE);
    }

    private static void both() {
        S.says(38, "NONE: no such ones");
        S.noSuchOnes("both", (x, i, j) -> x.both(i, j, true));
        S.noSuchOnes("both, upper", (x, i, j) -> x.both(i, j, false));

        S.says(38, "both are one");
        S.bothAreOne("both", (x, i, j) -> x.both(i, j, false));
        S.dueFraction("both of like ones", lower -> Checks.with(3, 3, 3, 3).both(0, 1, lower), 0, 1);
        S.dueFraction("both, always", lower -> Checks.with(3, 3, 3, 9).both(1, 0, lower), 1, 1);
        // Stretches that touch in one time only, 1 by 2.
        S.dueFraction("both, a time", lower -> Checks.with(0, 0, 1, 0).both(0, 1, lower), 0, 1);
    }

    private static void someone() {
        S.says(39, "NONE: no RUNNERS.");
        S.due("someone of none", new RingRunners().someone(false), NONE);
        S.due("someone of none, lower", new RingRunners().someone(true), NONE);
        RingRunners gone = Checks.with(3, 3);
        S.dueFraction("someone of one", lower -> gone.someone(lower), 1, 1);
        gone.drop(0);
        S.due("someone of one that has gone", gone.someone(true), NONE);
        S.dueFraction("someone of two that never are", lower -> Checks.with(3, 3, 3, 4).someone(lower), 0, 1);
    }

    private static void firsts() {
        S.says(40, "(those that never are behind all)");
        int[] order = {2, 3, 0, 1};
        int[] splitOrder = {2, 1, 0};
        for (int k = 0; k < 4; k++) {
            S.due("firsts(" + k + ")", Checks.with(1, 0, 1, 0, 1, 3, 1, 7).firsts(k), order[k]);
            S.due("firsts(" + k + ") of split ones", split().firsts(k), k < 3 ? splitOrder[k] : NONE);
        }

        S.says(40, "The k-th RUNNER by the first TIME at which it is LONELY");
        // 1 by 6, 1 by 12, 25 by 36; and 1 by 36, 13 by 36, 5 by 24.
        int[] early = {1, 0, 2};
        int[] near = {0, 2, 1};
        for (int k = 0; k < 3; k++) {
            S.due("firsts(" + k + ")", Checks.with(3, 1, 4, 4, 1, 1).firsts(k), early[k]);
            S.due("firsts(" + k + ")", Checks.with(4, 10, 1, 7, 3, 6).firsts(k), near[k]);
        }

        S.says(40, "of like ones by numbers");
        RingRunners six = Checks.with(3, 3, 3, 3, 3, 3, 3, 3, 3, 3, 3, 3);
        for (int k = 0; k < 6; k++) {
            S.due("firsts(" + k + ") of six that never are", six.firsts(k), k);
        }
        for (int k = 0; k < 3; k++) {
            S.due("firsts(" + k + ") of three at 0", Checks.with(5, 8, 5, 4, 5, 0).firsts(k), k);
            S.due("firsts(" + k + ") of three at 1 by 3", Checks.with(2, 0, 1, 0, 0, 0).firsts(k), k);
        }

        S.says(40, "NONE: no such k.");
        S.noSuchOne("firsts", (x, k) -> x.firsts(k));
        S.due("firsts(0) of one", Checks.with(3, 3).firsts(0), 0);
    }

    private static void tights() {
        S.says(41, "RUNNERS whose BEST is 1 by K (bits)");
        S.due("tights of none", new RingRunners().tights(), 0);
        S.due("tights of one", Checks.with(3, 3).tights(), 0);
        S.due("tights of two", Checks.with(3, 3, 4, 4).tights(), 3);
        S.due("tights of two that never are", Checks.with(3, 3, 3, 4).tights(), 0);
        S.due("tights of three", meeting3().tights(), 5);
        S.due("tights of three, one never, two more", split().tights(), 0);
        S.due("tights of six", Checks.with(5, 0, 5, 2, 5, 4, 5, 6, 5, 8, 5, 10).tights(), 63);
        S.due("tights, one of six", Checks.with(5, 0, 5, 0, 5, 0, 5, 0, 5, 0, 5, 2).tights(), 32);
    }

    private static void dueMeetsNext(RingRunners x, int i, int p, int q, long upper, long lower) {
        S.dueFraction("meetsNext of 0, " + i + " at " + p + " by " + q, below -> x.meetsNext(0, i, p, q, below), upper,
            lower);
        S.dueFraction("meetsNext of " + i + ", 0 at " + p + " by " + q, below -> x.meetsNext(i, 0, p, q, below), upper,
            lower);
    }

    private static void meetsNext() {
        S.says(42, "The first TIME not below a TIME at which two RUNNERS are at one PLACE");
        RingRunners x = Checks.with(2, 0, 5, 0, 5, 6, 2, 0, 2, 1);
        dueMeetsNext(x, 1, 0, 1, 0, 1);
        dueMeetsNext(x, 1, 1, 999, 1, 3);
        dueMeetsNext(x, 1, 333, 999, 1, 3);
        dueMeetsNext(x, 1, 334, 999, 2, 3);
        dueMeetsNext(x, 1, 667, 999, 1, 1);
        dueMeetsNext(x, 1, 1, 1, 1, 1);
        dueMeetsNext(x, 1, 9999, 1, 9999, 1);
        dueMeetsNext(x, 1, 9999, 999, 31, 3);
        // 1 by 6, 1 by 2, 5 by 6.
        dueMeetsNext(x, 2, 0, 1, 1, 6);
        dueMeetsNext(x, 2, 1, 6, 1, 6);
        dueMeetsNext(x, 2, 1, 5, 1, 2);
        dueMeetsNext(x, 2, 833, 999, 7, 6);
        dueMeetsNext(x, 2, 9999, 1, 59995, 6);
        // Always: the time itself.
        dueMeetsNext(x, 3, 0, 1, 0, 1);
        dueMeetsNext(x, 3, 9999, 999, 1111, 111);

        S.says(42, "-2: there is none");
        for (boolean lower : new boolean[] {false, true}) {
            S.due("meetsNext, never", x.meetsNext(0, 4, 0, 1, lower), -2);
            S.due("meetsNext, never", x.meetsNext(4, 3, 9999, 999, lower), -2);
        }

        S.says(42, "NONE: no such ones");
        S.noSuchOnes("meetsNext", (y, i, j) -> y.meetsNext(i, j, 5, 7, true));
        S.noSuchTime("meetsNext", (y, p, q) -> y.meetsNext(0, 1, p, q, false));

        S.says(42, "both are one");
        S.bothAreOne("meetsNext", (y, i, j) -> y.meetsNext(i, j, 5, 7, false));
    }

    private static void meets() {
        S.says(43, "How many TIMES of 0 up to (below) 1 two RUNNERS are at one PLACE");
        S.due("meets, at 0 alone", Checks.with(0, 0, 1, 0).meets(0, 1), 1);
        S.due("meets, at 1 by 2 alone", Checks.with(0, 0, 1, 6).meets(1, 0), 1);
        S.due("meets, forty", Checks.with(0, 0, 40, 0).meets(0, 1), 40);
        S.due("meets, forty, not at 0", Checks.with(40, 0, 0, 11).meets(0, 1), 40);
        S.due("meets, never", Checks.with(3, 3, 3, 4).meets(0, 1), 0);

        S.says(43, "-2: always");
        S.due("meets of like ones", Checks.with(3, 3, 3, 3).meets(0, 1), -2);
        S.due("meets of still ones", Checks.with(0, 0, 0, 0).meets(1, 0), -2);
        S.due("meets of like starts", Checks.with(3, 3, 4, 3).meets(0, 1), 1);

        S.says(43, "NONE: no such ones");
        S.noSuchOnes("meets", (x, i, j) -> x.meets(i, j));

        S.says(43, "both are one");
        S.bothAreOne("meets", (x, i, j) -> x.meets(i, j));
    }

    private static void meeting() {
        S.says(44, "-2: there are not so many, or it is always");
        for (boolean lower : new boolean[] {false, true}) {
            RingRunners x = Checks.with(0, 0, 3, 0, 3, 6, 0, 0, 0, 1);
            S.due("meeting of 0, 1, 3rd", x.meeting(0, 1, 2, lower), lower ? 3 : 2);
            S.due("meeting of 0, 1, 4th", x.meeting(0, 1, 3, lower), -2);
            S.due("meeting of 2, 0, 1st", x.meeting(2, 0, 0, lower), lower ? 6 : 1);
            S.due("meeting of 2, 0, 3rd", x.meeting(2, 0, 2, lower), lower ? 6 : 5);
            S.due("meeting of 2, 0, 4th", x.meeting(2, 0, 3, lower), -2);
            S.due("meeting of 1, 0, far on", x.meeting(1, 0, MOST, lower), -2);
            S.due("meeting, always", x.meeting(0, 3, 0, lower), -2);
            S.due("meeting, always, far on", x.meeting(3, 0, MOST, lower), -2);
            S.due("meeting, never", x.meeting(0, 4, 0, lower), -2);
            S.due("meeting of 0, 40, the last", Checks.with(0, 0, 40, 1).meeting(0, 1, 39, lower), lower ? 480 : 479);
            S.due("meeting of 0, 40, behind it", Checks.with(0, 0, 40, 1).meeting(0, 1, 40, lower), -2);
        }

        S.says(44, "NONE: no such ones");
        S.noSuchOnes("meeting", (x, i, j) -> x.meeting(i, j, 0, true));
        S.noSuchOnes("meeting, far on,", (x, i, j) -> x.meeting(i, j, 999, false));

        S.says(44, "both are one");
        S.bothAreOne("meeting", (x, i, j) -> x.meeting(i, j, 0, true));
        S.bothAreOne("meeting, far on,", (x, i, j) -> x.meeting(i, j, 999, true));

        S.says(44, "k below 0");
        for (int k : new int[] {-1, -2, LEAST}) {
            S.due("meeting, " + k, Checks.with(0, 0, 3, 0).meeting(0, 1, k, false), NONE);
            S.due("meeting, always, " + k, Checks.with(3, 3, 3, 3).meeting(0, 1, k, true), NONE);
        }
    }

    private static void meetings() {
        S.says(45, "of all pairs of RUNNERS together, without those that are always at one PLACE");
        S.due("meetings of none", new RingRunners().meetings(), 0);
        S.due("meetings of one", Checks.with(3, 3).meetings(), 0);
        S.due("meetings of like ones", Checks.with(3, 3, 3, 3, 3, 3).meetings(), 0);
        S.due("meetings, never", Checks.with(3, 3, 3, 4).meetings(), 0);
        S.due("meetings of two like ones and one", Checks.with(0, 0, 0, 0, 1, 0).meetings(), 2);
        // At the time 0 each pair meets, and each counts.
        S.due("meetings of three", meeting3().meetings(), 4);
        S.due("meetings, the most", Checks.with(0, 0, 0, 1, 0, 2, 40, 3, 40, 4, 40, 5).meetings(), 360);
    }

    private static void gather() {
        S.says(46, "How many TIMES of 0 up to (below) 1 all RUNNERS are at one PLACE");
        S.due("gather, at 0 alone", Checks.with(0, 0, 1, 0).gather(), 1);
        S.due("gather, forty", Checks.with(0, 0, 40, 0).gather(), 40);
        S.due("gather, forty, not at 0", Checks.with(0, 5, 40, 0).gather(), 40);
        S.due("gather, never", Checks.with(3, 3, 3, 4).gather(), 0);
        S.due("gather, two of three", Checks.with(0, 0, 1, 0, 1, 6).gather(), 0);
        S.due("gather of six", Checks.with(0, 0, 10, 0, 20, 0, 30, 0, 40, 0, 15, 0).gather(), 5);

        S.says(46, "-2: always (K 1, too)");
        S.due("gather of one", Checks.with(3, 3).gather(), -2);
        S.due("gather of six like ones", Checks.with(3, 3, 3, 3, 3, 3, 3, 3, 3, 3, 3, 3).gather(), -2);
        S.due("gather, the last one apart", Checks.with(3, 3, 3, 3, 3, 3, 3, 3, 3, 3, 3, 4).gather(), 0);
        S.due("gather, the last one faster", Checks.with(3, 3, 3, 3, 3, 3, 3, 3, 3, 3, 4, 3).gather(), 1);

        S.says(46, "NONE: no RUNNERS.");
        S.due("gather of none", new RingRunners().gather(), NONE);
    }

    private static void period() {
        S.says(47, "-2: all SPEEDS are 0");
        for (boolean lower : new boolean[] {false, true}) {
            S.due("period of a still one", Checks.with(0, 5).period(lower), -2);
            S.due("period of six still ones", Checks.with(0, 0, 0, 1, 0, 2, 0, 3, 0, 4, 0, 5).period(lower), -2);
            S.due("period of still ones and one", Checks.with(0, 0, 0, 1, 40, 2).period(lower), lower ? 40 : 1);
            S.due("period of one and still ones", Checks.with(1, 0, 0, 1, 0, 2).period(lower), 1);
        }

        S.says(47, "NONE: no RUNNERS.");
        S.due("period of none", new RingRunners().period(false), NONE);
        S.due("period of none, lower", new RingRunners().period(true), NONE);
    }
}
