/** Promises 30 to 47: at all times. */
public final class AtAllTimesTest {
    private static final int NONE = -1;
    private static final Checks CHECKS = new Checks();

    public static void main(String[] args) {
        wrongInputs();
        none();
        one();
        bests();
        tightness();
        stretches();
        hours();
        longSums();
        nexts();
        hoursBy();
        together();
        firsts();
        meetings();
        gatherings();
        periods();
        CHECKS.finish(30, 47);
    }

    /** All meet at 0; 0 and 2 are lonely at 1 by 3 and 2 by 3, 1 from the one to the other. */
    private static RingRunners three() {
        return Checks.with(0, 0, 1, 0, 2, 0);
    }

    /** 0 is never lonely, 1 from 1 by 3 to 2 by 3, 2 up to 1 by 6 and from 5 by 6 on. */
    private static RingRunners split() {
        return Checks.with(0, 0, 1, 0, 1, 6);
    }

    private static void wrongInputs() {
        RingRunners x = three();
        for (int i : new int[] {-1, 3, 6, Integer.MAX_VALUE, Integer.MIN_VALUE}) {
            noRunner(x, i);
        }
        CHECKS.promise(30);
        CHECKS.due("best(0, 4)", x.best(0, 4), NONE);
        CHECKS.due("best(0, -1)", x.best(0, -1), NONE);
        CHECKS.promise(34);
        CHECKS.due("stretch(0, -1)", x.stretch(0, -1, false, false), NONE);
        CHECKS.promise(36);
        CHECKS.due("next at -1 by 1", x.next(0, -1, 1, false), NONE);
        CHECKS.due("next at 10000 by 1", x.next(0, 10000, 1, false), NONE);
        CHECKS.due("next at 1 by 0", x.next(0, 1, 0, false), NONE);
        CHECKS.due("next at 1 by 1000", x.next(0, 1, 1000, false), NONE);
        CHECKS.due("next at no time, never", split().next(0, 1, 0, false), NONE);
        CHECKS.promise(37);
        CHECKS.due("hoursBy 0 by 0", x.hoursBy(0, 0, 0, false), NONE);
        CHECKS.due("hoursBy 1 by 13", x.hoursBy(0, 1, 13, false), NONE);
        CHECKS.due("hoursBy -1 by 2", x.hoursBy(0, -1, 2, false), NONE);
        CHECKS.due("hoursBy 3 by 2", x.hoursBy(0, 3, 2, false), NONE);
        CHECKS.due("hoursBy -1 by -1", x.hoursBy(0, -1, -1, false), NONE);
        CHECKS.promise(38);
        CHECKS.due("both(1, 1)", x.both(1, 1, false), NONE);
        CHECKS.promise(42);
        CHECKS.due("meetsNext(1, 1)", x.meetsNext(1, 1, 0, 1, false), NONE);
        CHECKS.due("meetsNext at 10000 by 1", x.meetsNext(0, 1, 10000, 1, false), NONE);
        CHECKS.due("meetsNext at 1 by 0", x.meetsNext(0, 1, 1, 0, false), NONE);
        CHECKS.promise(43);
        CHECKS.due("meets(1, 1)", x.meets(1, 1), NONE);
        CHECKS.promise(44);
        CHECKS.due("meeting(1, 1)", x.meeting(1, 1, 0, false), NONE);
        CHECKS.due("meeting(0, 1, -1)", x.meeting(0, 1, -1, false), NONE);
    }

    private static void noRunner(RingRunners x, int i) {
        String who = " of " + i;
        CHECKS.promise(30);
        CHECKS.due("best" + who, x.best(i, 0), NONE);
        CHECKS.promise(31);
        CHECKS.due("tight" + who, x.tight(i), NONE);
        CHECKS.promise(33);
        CHECKS.due("stretches" + who, x.stretches(i), NONE);
        CHECKS.promise(34);
        CHECKS.due("stretch" + who, x.stretch(i, 0, false, false), NONE);
        CHECKS.due("stretch 9" + who, x.stretch(i, 9, false, false), NONE);
        CHECKS.promise(35);
        CHECKS.due("hours" + who, x.hours(i, true), NONE);
        CHECKS.promise(36);
        CHECKS.due("next" + who, x.next(i, 0, 1, false), NONE);
        CHECKS.promise(37);
        CHECKS.due("hoursBy" + who, x.hoursBy(i, 1, 2, false), NONE);
        CHECKS.promise(38);
        CHECKS.due("both" + who, x.both(i, 0, false), NONE);
        CHECKS.due("both with" + who, x.both(0, i, false), NONE);
        CHECKS.promise(40);
        CHECKS.due("firsts(" + i + ")", x.firsts(i), NONE);
        CHECKS.promise(42);
        CHECKS.due("meetsNext" + who, x.meetsNext(i, 0, 0, 1, false), NONE);
        CHECKS.due("meetsNext with" + who, x.meetsNext(0, i, 0, 1, false), NONE);
        CHECKS.promise(43);
        CHECKS.due("meets" + who, x.meets(i, 0), NONE);
        CHECKS.due("meets with" + who, x.meets(0, i), NONE);
        CHECKS.promise(44);
        CHECKS.due("meeting" + who, x.meeting(i, 0, 0, false), NONE);
        CHECKS.due("meeting with" + who, x.meeting(0, i, 0, false), NONE);
    }

    private static void none() {
        RingRunners x = new RingRunners();
        CHECKS.promise(32);
        CHECKS.due("never() of none", x.never(), 0);
        CHECKS.promise(39);
        CHECKS.due("someone() of none", x.someone(false), NONE);
        CHECKS.promise(41);
        CHECKS.due("tights() of none", x.tights(), 0);
        CHECKS.promise(45);
        CHECKS.due("meetings() of none", x.meetings(), 0);
        CHECKS.promise(46);
        CHECKS.due("gather() of none", x.gather(), NONE);
        CHECKS.promise(47);
        CHECKS.due("period() of none", x.period(false), NONE);
    }

    private static void one() {
        RingRunners x = Checks.with(7, 5);
        CHECKS.promise(30);
        best(x, 0, 1, 2, 0, 1);
        CHECKS.promise(31);
        CHECKS.due("tight of one", x.tight(0), 2);
        CHECKS.promise(32);
        CHECKS.due("never() of one", x.never(), 0);
        CHECKS.promise(33);
        CHECKS.due("stretches of one", x.stretches(0), 1);
        CHECKS.promise(34);
        stretch(x, 0, 0, 0, 1, 1, 1);
        CHECKS.promise(35);
        CHECKS.dueParts("hours of one", x.hours(0, false), x.hours(0, true), 1, 1);
        CHECKS.promise(36);
        CHECKS.dueParts("next of one", x.next(0, 6, 4, false), x.next(0, 6, 4, true), 3, 2);
        CHECKS.promise(37);
        CHECKS.dueParts("hoursBy of one", x.hoursBy(0, 6, 12, false), x.hoursBy(0, 6, 12, true), 1, 1);
        CHECKS.dueParts("hoursBy of one", x.hoursBy(0, 7, 12, false), x.hoursBy(0, 7, 12, true), 0, 1);
        CHECKS.promise(39);
        CHECKS.dueParts("someone of one", x.someone(false), x.someone(true), 1, 1);
        CHECKS.promise(40);
        CHECKS.due("firsts(0) of one", x.firsts(0), 0);
        CHECKS.promise(41);
        CHECKS.due("tights() of one", x.tights(), 0);
        CHECKS.promise(45);
        CHECKS.due("meetings() of one", x.meetings(), 0);
        CHECKS.promise(46);
        CHECKS.due("gather() of one", x.gather(), -2);
        CHECKS.promise(47);
        CHECKS.dueParts("period of one", x.period(false), x.period(true), 1, 7);
    }

    private static void best(RingRunners x, int i, int upper, int lower, int timeUpper, int timeLower) {
        CHECKS.dueParts("best of " + i, x.best(i, 0), x.best(i, 1), upper, lower);
        CHECKS.dueParts("first of " + i, x.best(i, 2), x.best(i, 3), timeUpper, timeLower);
    }

    private static void stretch(RingRunners x, int i, int k, int from, int by, int to, int toBy) {
        String which = "stretch " + k + " of " + i;
        CHECKS.dueParts(which + " from", x.stretch(i, k, false, false), x.stretch(i, k, false, true), from, by);
        CHECKS.dueParts(which + " to", x.stretch(i, k, true, false), x.stretch(i, k, true, true), to, toBy);
    }

    private static void bests() {
        CHECKS.promise(30);
        best(three(), 0, 1, 3, 1, 3);
        best(three(), 1, 1, 2, 1, 2);
        best(three(), 2, 1, 3, 1, 3);
        best(split(), 0, 1, 4, 1, 4);
        best(split(), 1, 1, 2, 1, 2);
        best(split(), 2, 1, 2, 0, 1);
        RingRunners x = Checks.with(0, 0, 8, 0, 7, 0, 1, 0);
        best(x, 0, 1, 3, 1, 3);
        best(x, 2, 4, 13, 5, 13);
        best(x, 3, 4, 13, 5, 13);
        // All beside it stand still to it: as it is from the time 0 on.
        best(Checks.with(9, 1, 9, 4, 9, 11), 0, 1, 6, 0, 1);
        best(Checks.with(9, 1, 9, 1), 0, 0, 1, 0, 1);
        // One that stands still to it keeps it below its top, which it is at for a while.
        best(Checks.with(0, 0, 0, 3, 1, 0), 0, 1, 4, 1, 4);
        best(Checks.with(0, 0, 40, 0), 0, 1, 2, 1, 80);
        best(Checks.with(0, 0, 6, 0), 0, 1, 2, 1, 12);
        // 40 times the time and 1 by 12 is 1 by 2.
        best(Checks.with(0, 0, 40, 1), 1, 1, 2, 1, 96);
        best(Checks.with(0, 0, 40, 11), 0, 1, 2, 7, 480);
    }

    private static void tightness() {
        CHECKS.promise(31);
        int[] three = {1, 2, 1};
        int[] split = {0, 2, 2};
        for (int i = 0; i < 3; i++) {
            CHECKS.due("tight(" + i + ")", three().tight(i), three[i]);
            CHECKS.due("tight(" + i + ")", split().tight(i), split[i]);
        }
        RingRunners like = Checks.with(5, 2, 5, 2);
        CHECKS.due("tight(0)", like.tight(0), 0);
        CHECKS.due("tight(0)", Checks.with(5, 2, 5, 8).tight(0), 1);
        // 1, 2, 3, 4, 5 and 0: all that have one speed between them.
        RingRunners six = Checks.with(0, 0, 1, 0, 2, 0, 3, 0, 4, 0, 5, 0);
        CHECKS.due("tight(0)", six.tight(0), 1);
        CHECKS.due("tight(5)", six.tight(5), 1);

        CHECKS.promise(32);
        CHECKS.due("never()", three().never(), 0);
        CHECKS.due("never()", split().never(), 1);
        CHECKS.due("never()", like.never(), 3);
        CHECKS.promise(41);
        CHECKS.due("tights()", three().tights(), 5);
        CHECKS.due("tights()", split().tights(), 0);
        CHECKS.due("tights()", like.tights(), 0);
        CHECKS.due("tights()", Checks.with(5, 2, 6, 2).tights(), 3);
        CHECKS.due("tights()", six.tights() & 33, 33);
    }

    private static void stretches() {
        CHECKS.promise(33);
        CHECKS.due("stretches(0)", three().stretches(0), 2);
        CHECKS.due("stretches(1)", three().stretches(1), 1);
        CHECKS.due("stretches(0)", split().stretches(0), 0);
        CHECKS.due("stretches(2)", split().stretches(2), 2);
        CHECKS.due("stretches(0)", Checks.with(5, 0, 5, 4, 5, 8).stretches(0), 1);
        CHECKS.due("stretches(0)", Checks.with(5, 0, 5, 11).stretches(0), 0);
        CHECKS.due("stretches(0)", Checks.with(5, 0, 5, 6).stretches(0), 1);
        CHECKS.due("stretches(0)", Checks.with(0, 0, 40, 0).stretches(0), 40);
        // At the time 0 and at 1, too.
        CHECKS.due("stretches(0)", Checks.with(0, 0, 40, 6).stretches(0), 41);
        CHECKS.due("stretches(0)", Checks.with(0, 0, 39, 7, 39, 1, 39, 1).stretches(0), 78);

        CHECKS.promise(34);
        RingRunners x = three();
        stretch(x, 0, 0, 1, 3, 1, 3);
        stretch(x, 0, 1, 2, 3, 2, 3);
        CHECKS.due("stretch(0, 2)", x.stretch(0, 2, true, true), -2);
        stretch(x, 1, 0, 1, 3, 2, 3);
        CHECKS.due("stretch(1, 1)", x.stretch(1, 1, false, false), -2);
        CHECKS.due("stretch(1, most)", x.stretch(1, Integer.MAX_VALUE, false, false), -2);
        x = split();
        CHECKS.due("stretch(0, 0)", x.stretch(0, 0, false, false), -2);
        stretch(x, 2, 0, 0, 1, 1, 6);
        stretch(x, 2, 1, 5, 6, 1, 1);
        x = Checks.with(0, 0, 40, 6);
        stretch(x, 0, 0, 0, 1, 0, 1);
        stretch(x, 0, 1, 1, 40, 1, 40);
        stretch(x, 1, 40, 1, 1, 1, 1);
        x = Checks.with(0, 0, 39, 7, 39, 1, 39, 1);
        stretch(x, 0, 67, 101, 117, 101, 117);
        stretch(Checks.with(5, 0, 5, 4, 5, 8), 1, 0, 0, 1, 1, 1);
    }

    private static void hours() {
        CHECKS.promise(35);
        hours(three(), 0, 0, 1);
        hours(three(), 1, 1, 3);
        hours(split(), 0, 0, 1);
        hours(split(), 2, 1, 3);
        hours(Checks.with(5, 0, 5, 4, 5, 8), 2, 1, 1);
        hours(Checks.with(5, 0, 5, 6), 0, 1, 1);
        // 1 by 2 is due of two: times, but no while.
        hours(Checks.with(0, 0, 40, 6), 0, 0, 1);
    }

    private static void hours(RingRunners x, int i, long upper, long lower) {
        CHECKS.dueParts("hours of " + i, x.hours(i, false), x.hours(i, true), upper, lower);
    }

    private static void longSums() {
        CHECKS.promise(35);
        hours(Checks.with(37, 1, 25, 8, 0, 10, 38, 11, 29, 6, 39, 7), 2, 61585429L, 477055800L);
        RingRunners x = Checks.with(39, 0, 10, 6, 1, 9, 16, 8, 2, 9, 27, 1);
        CHECKS.promise(38);
        CHECKS.dueParts("both", x.both(0, 5, false), x.both(0, 5, true), 74502751L, 4642119900L);
        CHECKS.dueParts("both", x.both(4, 1, false), x.both(4, 1, true), 149, 11100);
        CHECKS.promise(39);
        CHECKS.dueParts("someone", x.someone(false), x.someone(true), 99587279160251L, 172352627647200L);
    }

    private static void nexts() {
        CHECKS.promise(36);
        RingRunners x = split();
        CHECKS.due("next of one that never is", x.next(0, 1, 2, false), -2);
        next(x, 1, 0, 1, 1, 3);
        next(x, 1, 1, 3, 1, 3);
        next(x, 1, 1, 2, 1, 2);
        next(x, 1, 2, 3, 2, 3);
        next(x, 1, 667, 999, 4, 3);
        next(x, 1, 9999, 1, 29998, 3);
        next(x, 1, 9999, 2, 9999, 2);
        next(x, 2, 0, 7, 0, 1);
        next(x, 2, 2, 12, 1, 6);
        next(x, 2, 1, 5, 5, 6);
        next(x, 2, 11, 12, 11, 12);
        next(x, 2, 5, 5, 1, 1);
        next(x, 2, 27, 4, 41, 6);
        next(three(), 0, 7, 4, 7, 3);
    }

    private static void next(RingRunners x, int i, int p, int q, long upper, long lower) {
        long gotUpper = x.next(i, p, q, false);
        long gotLower = x.next(i, p, q, true);
        CHECKS.dueParts("next of " + i + " at " + p + " by " + q, gotUpper, gotLower, upper, lower);
    }

    private static void hoursBy() {
        CHECKS.promise(37);
        RingRunners x = split();
        hoursBy(x, 1, 1, 4, 1, 2);
        hoursBy(x, 1, 1, 12, 5, 6);
        hoursBy(x, 1, 0, 7, 1, 1);
        hoursBy(x, 1, 1, 2, 0, 1);
        hoursBy(x, 1, 6, 12, 0, 1);
        hoursBy(x, 1, 5, 11, 1, 11);
        hoursBy(x, 1, 12, 12, 0, 1);
        hoursBy(x, 0, 1, 4, 0, 1);
        hoursBy(x, 0, 1, 6, 1, 3);
        hoursBy(x, 0, 0, 1, 1, 1);
        hoursBy(Checks.with(5, 0, 5, 5), 0, 5, 12, 1, 1);
        hoursBy(Checks.with(5, 0, 5, 5), 0, 3, 7, 0, 1);
    }

    private static void hoursBy(RingRunners x, int i, int u, int w, long upper, long lower) {
        long gotUpper = x.hoursBy(i, u, w, false);
        long gotLower = x.hoursBy(i, u, w, true);
        CHECKS.dueParts("hoursBy " + u + " by " + w + " of " + i, gotUpper, gotLower, upper, lower);
    }

    private static void together() {
        CHECKS.promise(38);
        RingRunners x = Checks.with(5, 0, 5, 4, 5, 8);
        CHECKS.dueParts("both", x.both(0, 2, false), x.both(0, 2, true), 1, 1);
        x = split();
        CHECKS.dueParts("both", x.both(1, 2, false), x.both(1, 2, true), 0, 1);
        // Each is due 1 by 3 of the ring: 0, 1 by 3 and 2 by 3, at one time alone.
        x = Checks.with(0, 0, 0, 4, 1, 0);
        CHECKS.dueParts("both", x.both(0, 1, false), x.both(1, 0, true), 0, 1);
        CHECKS.dueParts("both", x.both(0, 2, false), x.both(2, 0, true), 0, 1);
        x = Checks.with(0, 0, 0, 6, 1, 0, 1, 6);
        CHECKS.dueParts("both", x.both(0, 1, false), x.both(1, 0, true), 0, 1);

        CHECKS.promise(39);
        x = split();
        CHECKS.dueParts("someone", x.someone(false), x.someone(true), 2, 3);
        CHECKS.dueParts("someone", three().someone(false), three().someone(true), 1, 3);
        x = Checks.with(0, 0, 0, 0);
        CHECKS.dueParts("someone", x.someone(false), x.someone(true), 0, 1);
        x = Checks.with(0, 0, 0, 4, 0, 8);
        CHECKS.dueParts("someone", x.someone(false), x.someone(true), 1, 1);
        // Nothing is left of what was asked before.
        x.start(2, 5);
        CHECKS.dueParts("someone", x.someone(false), x.someone(true), 1, 1);
        x.start(0, 4);
        CHECKS.dueParts("someone", x.someone(false), x.someone(true), 0, 1);
        CHECKS.dueParts("both", x.both(0, 1, false), x.both(0, 1, true), 0, 1);
    }

    private static void firsts() {
        CHECKS.promise(40);
        int[] split = {2, 1, 0};
        for (int k = 0; k < 3; k++) {
            CHECKS.due("firsts(" + k + ")", split().firsts(k), split[k]);
            CHECKS.due("firsts(" + k + ")", three().firsts(k), k);
        }
        // The first two are never, the others at the time 0.
        RingRunners x = Checks.with(1, 0, 1, 0, 1, 3, 1, 7);
        int[] order = {2, 3, 0, 1};
        for (int k = 0; k < 4; k++) {
            CHECKS.due("firsts(" + k + ")", x.firsts(k), order[k]);
        }
        CHECKS.due("firsts(4)", x.firsts(4), NONE);
    }

    private static void meetings() {
        RingRunners x = Checks.with(5, 0, 2, 0, 2, 3, 5, 3, 2, 0);
        CHECKS.promise(42);
        meetsNext(x, 0, 1, 0, 1, 0, 1);
        meetsNext(x, 0, 1, 1, 999, 1, 3);
        meetsNext(x, 1, 0, 1, 3, 1, 3);
        meetsNext(x, 0, 1, 334, 999, 2, 3);
        meetsNext(x, 0, 1, 9999, 1, 9999, 1);
        meetsNext(x, 0, 1, 9998, 3, 9998, 3);
        // 5 is 1 by 4 behind 2, catches it up at 1 by 12.
        meetsNext(x, 0, 2, 0, 1, 1, 12);
        meetsNext(x, 2, 0, 1, 11, 5, 12);
        // 5 is 1 by 4 ahead: 3 by 4 behind.
        meetsNext(x, 3, 1, 0, 1, 1, 4);
        meetsNext(x, 1, 4, 10, 4, 5, 2);
        CHECKS.due("meetsNext, never", x.meetsNext(1, 2, 0, 1, false), -2);
        CHECKS.due("meetsNext, never", x.meetsNext(1, 2, 0, 1, true), -2);

        CHECKS.promise(43);
        CHECKS.due("meets(0, 1)", x.meets(0, 1), 3);
        CHECKS.due("meets(2, 0)", x.meets(2, 0), 3);
        CHECKS.due("meets(1, 2)", x.meets(1, 2), 0);
        CHECKS.due("meets(1, 4)", x.meets(1, 4), -2);

        CHECKS.promise(44);
        CHECKS.dueParts("meeting", x.meeting(0, 1, 0, false), x.meeting(0, 1, 0, true), 0, 1);
        CHECKS.dueParts("meeting", x.meeting(0, 1, 2, false), x.meeting(1, 0, 2, true), 2, 3);
        CHECKS.due("meeting(0, 1, 3)", x.meeting(0, 1, 3, false), -2);
        CHECKS.due("meeting(0, 1, most)", x.meeting(0, 1, Integer.MAX_VALUE, false), -2);
        CHECKS.dueParts("meeting", x.meeting(2, 0, 0, false), x.meeting(2, 0, 0, true), 1, 12);
        CHECKS.dueParts("meeting", x.meeting(0, 2, 2, false), x.meeting(0, 2, 2, true), 3, 4);
        CHECKS.dueParts("meeting", x.meeting(3, 1, 2, false), x.meeting(3, 1, 2, true), 11, 12);
        CHECKS.due("meeting, never", x.meeting(1, 2, 0, false), -2);
        CHECKS.due("meeting, always", x.meeting(1, 4, 0, false), -2);

        CHECKS.promise(45);
        // 0 and 3 with each of 1, 2, 4: 3 times.
        CHECKS.due("meetings()", x.meetings(), 18);
        CHECKS.due("meetings()", three().meetings(), 4);
        CHECKS.due("meetings()", Checks.with(0, 0, 40, 5).meetings(), 40);
        CHECKS.due("meetings()", Checks.with(3, 3, 3, 3, 3, 4).meetings(), 0);
    }

    private static void meetsNext(RingRunners x, int i, int j, int p, int q, long upper, long lower) {
        CHECKS.dueParts("meetsNext of " + i + ", " + j + " at " + p + " by " + q,
            x.meetsNext(i, j, p, q, false), x.meetsNext(i, j, p, q, true), upper, lower);
    }

    private static void gatherings() {
        CHECKS.promise(46);
        CHECKS.due("gather()", three().gather(), 1);
        CHECKS.due("gather()", split().gather(), 0);
        CHECKS.due("gather()", Checks.with(1, 2, 3, 2, 5, 2).gather(), 2);
        CHECKS.due("gather()", Checks.with(0, 0, 2, 6, 6, 6).gather(), 2);
        CHECKS.due("gather()", Checks.with(0, 0, 2, 6, 6, 0).gather(), 0);
        CHECKS.due("gather()", Checks.with(0, 0, 2, 6).gather(), 2);
        CHECKS.due("gather()", Checks.with(3, 3, 3, 3, 3, 3).gather(), -2);
        CHECKS.due("gather()", Checks.with(3, 3, 3, 4).gather(), 0);
        CHECKS.due("gather()", Checks.with(3, 3, 3, 3, 7, 3).gather(), 4);
        CHECKS.due("gather()", Checks.with(3, 3, 7, 3, 3, 4).gather(), 0);
    }

    private static void periods() {
        CHECKS.promise(47);
        RingRunners x = Checks.with(6, 1, 10, 2);
        CHECKS.dueParts("period", x.period(false), x.period(true), 1, 2);
        x = Checks.with(0, 1, 6, 2);
        CHECKS.dueParts("period", x.period(false), x.period(true), 1, 6);
        x = Checks.with(40, 1);
        CHECKS.dueParts("period", x.period(false), x.period(true), 1, 40);
        x = Checks.with(0, 1, 0, 2);
        CHECKS.dueParts("period", x.period(false), x.period(true), -2, -2);
        CHECKS.dueParts("period", three().period(false), three().period(true), 1, 1);
    }
}
