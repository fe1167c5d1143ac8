/** Promises 18 to 29: at a time. */
public final class AtATimeTest {
    private static final int NONE = -1;
    private static final Checks CHECKS = new Checks();

    public static void main(String[] args) {
        wrongInputs();
        places();
        ways();
        lonelies();
        holes();
        crowds();
        ranks();
        laps();
        closest();
        between();
        passed();
        CHECKS.finish(18, 29);
    }

    // Places at the time 1 by 4: 0, 1 by 2, 3 by 4.
    private static RingRunners three() {
        return Checks.with(0, 0, 1, 3, 5, 6);
    }

    private static void wrongInputs() {
        RingRunners x = three();
        int[][] times = {{-1, 1}, {10000, 1}, {0, 0}, {0, 1000}, {0, -1}, {Integer.MIN_VALUE, Integer.MIN_VALUE},
            {Integer.MAX_VALUE, Integer.MAX_VALUE}};
        for (int[] time : times) {
            noTime(x, time[0], time[1]);
        }
        int[] runners = {-1, 3, 6, Integer.MAX_VALUE, Integer.MIN_VALUE};
        for (int i : runners) {
            noRunner(x, i);
        }
    }

    private static void noTime(RingRunners x, int p, int q) {
        String time = " at " + p + " by " + q;
        CHECKS.promise(18);
        CHECKS.due("place" + time, x.place(0, p, q, false), NONE);
        CHECKS.promise(19);
        CHECKS.due("apart" + time, x.apart(0, 1, p, q, false), NONE);
        CHECKS.promise(20);
        CHECKS.due("nearest" + time, x.nearest(0, p, q, true), NONE);
        CHECKS.promise(21);
        CHECKS.due("lonely" + time, x.lonely(p, q), NONE);
        CHECKS.promise(22);
        CHECKS.due("hole" + time, x.hole(p, q, false), NONE);
        CHECKS.promise(23);
        CHECKS.due("alone" + time, x.alone(p, q), NONE);
        CHECKS.promise(24);
        CHECKS.due("crowd" + time, x.crowd(p, q), NONE);
        CHECKS.promise(25);
        CHECKS.due("ranked" + time, x.ranked(p, q, 0), NONE);
        CHECKS.promise(26);
        CHECKS.due("laps" + time, x.laps(0, p, q), NONE);
        CHECKS.promise(27);
        CHECKS.due("closest" + time, x.closest(p, q, 0), NONE);
        CHECKS.promise(28);
        CHECKS.due("between" + time, x.between(0, p, q, false), NONE);
        CHECKS.promise(29);
        CHECKS.due("passed" + time, x.passed(0, 1, p, q), NONE);
    }

    private static void noRunner(RingRunners x, int i) {
        String who = " of " + i;
        CHECKS.promise(18);
        CHECKS.due("place" + who, x.place(i, 1, 4, false), NONE);
        CHECKS.promise(19);
        CHECKS.due("apart" + who, x.apart(i, 0, 1, 4, false), NONE);
        CHECKS.due("apart to" + who, x.apart(0, i, 1, 4, false), NONE);
        CHECKS.promise(20);
        CHECKS.due("nearest" + who, x.nearest(i, 1, 4, false), NONE);
        CHECKS.promise(25);
        CHECKS.due("ranked" + who, x.ranked(1, 4, i), NONE);
        CHECKS.promise(26);
        CHECKS.due("laps" + who, x.laps(i, 1, 4), NONE);
        CHECKS.promise(27);
        CHECKS.due("closest" + who, x.closest(1, 4, i), NONE);
        CHECKS.promise(28);
        CHECKS.due("between" + who, x.between(i, 1, 4, true), NONE);
        CHECKS.promise(29);
        CHECKS.due("passed" + who, x.passed(i, 0, 1, 4), NONE);
        CHECKS.due("passed to" + who, x.passed(0, i, 1, 4), NONE);
    }

    private static void places() {
        CHECKS.promise(18);
        RingRunners x = three();
        place(x, 0, 1, 4, 0, 1);
        place(x, 1, 1, 4, 1, 2);
        place(x, 2, 1, 4, 3, 4);
        place(x, 1, 0, 999, 1, 4);
        place(x, 1, 3, 4, 0, 1);
        place(x, 1, 1, 7, 11, 28);
        place(x, 2, 9999, 999, 121, 222);
        place(x, 1, 9999, 1, 1, 4);
        x = Checks.with(40, 11);
        // 40 times 9999 by 998 is 400 and 760 by 998; 11 by 12 more is 402 and less than 1.
        place(x, 0, 9999, 998, 399960 * 12 + 11 * 998 - 401 * 12 * 998, 12 * 998);
    }

    private static void place(RingRunners x, int i, int p, int q, int upper, int lower) {
        int divisor = 1;
        for (int n = 2; n <= lower; n++) {
            divisor = upper % n == 0 && lower % n == 0 ? n : divisor;
        }
        CHECKS.dueParts("place " + i + " at " + p + " by " + q, x.place(i, p, q, false), x.place(i, p, q, true),
            upper / divisor, lower / divisor);
    }

    private static void ways() {
        CHECKS.promise(19);
        RingRunners x = three();
        CHECKS.dueParts("apart", x.apart(0, 1, 1, 4, false), x.apart(0, 1, 1, 4, true), 1, 2);
        CHECKS.dueParts("apart", x.apart(0, 2, 1, 4, false), x.apart(0, 2, 1, 4, true), 1, 4);
        CHECKS.dueParts("apart", x.apart(2, 0, 1, 4, false), x.apart(2, 0, 1, 4, true), 1, 4);
        CHECKS.dueParts("apart", x.apart(0, 1, 3, 4, false), x.apart(0, 1, 3, 4, true), 0, 1);
        // 5 by 12 and 2 by 3.
        CHECKS.dueParts("apart", x.apart(1, 2, 1, 6, false), x.apart(1, 2, 1, 6, true), 1, 12);
        CHECKS.due("apart(1, 1)", x.apart(1, 1, 1, 4, false), NONE);

        CHECKS.promise(20);
        CHECKS.dueParts("nearest", x.nearest(0, 1, 4, false), x.nearest(0, 1, 4, true), 1, 4);
        CHECKS.dueParts("nearest", x.nearest(0, 1, 6, false), x.nearest(0, 1, 6, true), 1, 3);
        CHECKS.dueParts("nearest", x.nearest(1, 1, 6, false), x.nearest(1, 1, 6, true), 1, 12);
        CHECKS.dueParts("nearest", x.nearest(1, 3, 4, false), x.nearest(1, 3, 4, true), 0, 1);
        x = Checks.with(7, 7);
        CHECKS.dueParts("nearest of one", x.nearest(0, 3, 7, false), x.nearest(0, 3, 7, true), 1, 2);
    }

    private static void lonelies() {
        CHECKS.promise(21);
        RingRunners x = new RingRunners();
        CHECKS.due("lonely of none", x.lonely(1, 2), 0);
        x.run(3, 3);
        CHECKS.due("lonely of one", x.lonely(1, 2), 1);
        x = Checks.with(0, 0, 1, 0, 2, 0);
        CHECKS.due("lonely at 1 by 3", x.lonely(1, 3), 7);
        CHECKS.due("lonely at 1 by 2", x.lonely(1, 2), 2);
        CHECKS.due("lonely at 0", x.lonely(0, 5), 0);
        CHECKS.due("lonely at 332 by 999", x.lonely(332, 999), 0);
        CHECKS.due("lonely at 334 by 999", x.lonely(334, 999), 2);
        CHECKS.due("lonely at 9998 by 3", x.lonely(9998, 3), 7);
        // 1 by 2 is due of two.
        x = Checks.with(0, 0, 1, 0);
        CHECKS.due("lonely at 499 by 998", x.lonely(499, 998), 3);
        CHECKS.due("lonely at 499 by 999", x.lonely(499, 999), 0);
    }

    private static void holes() {
        CHECKS.promise(22);
        CHECKS.due("hole of none", new RingRunners().hole(1, 2, false), NONE);
        RingRunners x = three();
        CHECKS.dueParts("hole", x.hole(1, 4, false), x.hole(1, 4, true), 1, 2);
        // 0, 5 by 12, 1 by 3.
        CHECKS.dueParts("hole", x.hole(1, 6, false), x.hole(1, 6, true), 7, 12);
        x = Checks.with(1, 2, 1, 2, 2, 2);
        CHECKS.dueParts("hole", x.hole(0, 1, false), x.hole(0, 1, true), 1, 1);
        CHECKS.dueParts("hole", x.hole(1, 5, false), x.hole(1, 5, true), 4, 5);
        CHECKS.dueParts("hole", x.hole(4, 5, false), x.hole(4, 5, true), 4, 5);
        x = Checks.with(0, 0, 0, 1);
        CHECKS.dueParts("hole", x.hole(0, 1, false), x.hole(0, 1, true), 11, 12);
        x = Checks.with(3, 4);
        CHECKS.dueParts("hole of one", x.hole(1, 5, false), x.hole(1, 5, true), 1, 1);
    }

    private static void crowds() {
        CHECKS.promise(23);
        RingRunners x = Checks.with(0, 0, 1, 0, 2, 0, 3, 6);
        CHECKS.due("alone of none", new RingRunners().alone(0, 1), 0);
        CHECKS.due("alone of one", Checks.with(1, 1).alone(0, 1), 1);
        CHECKS.due("alone at 0", x.alone(0, 1), 8);
        CHECKS.due("alone at 1 by 2", x.alone(1, 2), 2);
        CHECKS.due("alone at 1 by 7", x.alone(1, 7), 15);

        CHECKS.promise(24);
        CHECKS.due("crowd of none", new RingRunners().crowd(0, 1), NONE);
        CHECKS.due("crowd of one", Checks.with(1, 1).crowd(0, 1), 1);
        CHECKS.due("crowd at 0", x.crowd(0, 1), 3);
        // 0, 1 by 2, 0, 0.
        CHECKS.due("crowd at 1 by 2", x.crowd(1, 2), 3);
        CHECKS.due("crowd at 1 by 7", x.crowd(1, 7), 1);
        // 0, 1 by 4, 1 by 2, 1 by 4.
        CHECKS.due("crowd at 1 by 4", x.crowd(1, 4), 2);
    }

    private static void ranks() {
        CHECKS.promise(25);
        RingRunners x = Checks.with(4, 0, 1, 0, 2, 0, 3, 6);
        // At 1 by 4: 0, 1 by 4, 1 by 2, 1 by 4.
        int[] order = {0, 1, 3, 2};
        for (int k = 0; k < 4; k++) {
            CHECKS.due("ranked(1, 4, " + k + ")", x.ranked(1, 4, k), order[k]);
        }
        // At 2 by 3: 2 by 3, 2 by 3, 1 by 3, 1 by 2.
        int[] later = {2, 3, 0, 1};
        for (int k = 0; k < 4; k++) {
            CHECKS.due("ranked(2, 3, " + k + ")", x.ranked(2, 3, k), later[k]);
        }
        CHECKS.due("ranked(1, 4, 4)", x.ranked(1, 4, 4), NONE);
        CHECKS.due("ranked(1, 4, -1)", x.ranked(1, 4, -1), NONE);
    }

    private static void laps() {
        CHECKS.promise(26);
        RingRunners x = three();
        CHECKS.due("laps at 0", x.laps(2, 0, 1), 0);
        CHECKS.due("laps at 1 by 10", x.laps(2, 1, 10), 1);
        CHECKS.due("laps at 99 by 999", x.laps(2, 99, 999), 0);
        CHECKS.due("laps at 3 by 4", x.laps(1, 3, 4), 1);
        CHECKS.due("laps at 2 by 3", x.laps(1, 2, 3), 0);
        CHECKS.due("laps of a still one", x.laps(0, 9999, 1), 0);
        CHECKS.due("laps", Checks.with(40, 11).laps(0, 9999, 1), 399960);
        CHECKS.due("laps", Checks.with(40, 11).laps(0, 1, 480), 1);
    }

    private static void closest() {
        CHECKS.promise(27);
        RingRunners x = three();
        // Two are 1 by 4 apart twice: the lesser numbers.
        CHECKS.due("closest(1, 4, 0)", x.closest(1, 4, 0), 2);
        CHECKS.due("closest(1, 4, 1)", x.closest(1, 4, 1), 1);
        CHECKS.due("closest(1, 4, 2)", x.closest(1, 4, 2), 4);
        CHECKS.due("closest(1, 6, 0)", x.closest(1, 6, 0), 12);
        CHECKS.due("closest(1, 6, 1)", x.closest(1, 6, 1), 1);
        CHECKS.due("closest(1, 6, 2)", x.closest(1, 6, 2), 12);
        CHECKS.due("closest(3, 4, 0)", x.closest(3, 4, 0), 1);
        CHECKS.due("closest(3, 4, 1)", x.closest(3, 4, 1), 0);
        CHECKS.due("closest(3, 4, 2)", x.closest(3, 4, 2), 1);
        CHECKS.due("closest(1, 4, 3)", x.closest(1, 4, 3), NONE);
        CHECKS.due("closest(1, 4, -1)", x.closest(1, 4, -1), NONE);
        CHECKS.due("closest of one", Checks.with(1, 1).closest(1, 4, 0), NONE);
        CHECKS.due("closest of none", new RingRunners().closest(1, 4, 0), NONE);
        x = Checks.with(0, 0, 0, 6);
        CHECKS.due("closest of two", x.closest(5, 7, 0), 1);
        CHECKS.due("closest of two, lower", x.closest(5, 7, 2), 2);
        x = Checks.with(0, 0, 0, 2, 0, 4, 0, 6, 0, 8, 0, 9);
        CHECKS.due("closest of six", x.closest(0, 1, 0), 45);
    }

    private static void between() {
        CHECKS.promise(28);
        RingRunners x = three();
        CHECKS.dueParts("between", x.between(0, 1, 4, false), x.between(0, 1, 4, true), 1, 2);
        CHECKS.dueParts("between", x.between(1, 1, 4, false), x.between(1, 1, 4, true), 1, 4);
        CHECKS.dueParts("between", x.between(2, 1, 4, false), x.between(2, 1, 4, true), 1, 4);
        CHECKS.dueParts("between", x.between(0, 3, 4, false), x.between(0, 3, 4, true), 0, 1);
        x = Checks.with(7, 7);
        CHECKS.dueParts("between of one", x.between(0, 3, 4, false), x.between(0, 3, 4, true), 1, 1);
        x = Checks.with(0, 9, 0, 1);
        CHECKS.dueParts("between round", x.between(0, 3, 4, false), x.between(0, 3, 4, true), 1, 3);
        CHECKS.dueParts("between", x.between(1, 3, 4, false), x.between(1, 3, 4, true), 2, 3);
    }

    private static void passed() {
        CHECKS.promise(29);
        RingRunners x = Checks.with(0, 0, 3, 0, 3, 6, 3, 0);
        CHECKS.due("passed at 0", x.passed(0, 1, 0, 1), 1);
        CHECKS.due("passed at 1 by 3", x.passed(0, 1, 1, 3), 2);
        CHECKS.due("passed at 332 by 999", x.passed(0, 1, 332, 999), 1);
        CHECKS.due("passed at 1", x.passed(1, 0, 1, 1), 4);
        CHECKS.due("passed at 9999", x.passed(0, 1, 9999, 1), 29998);
        // 1 by 6, 1 by 2, 5 by 6.
        CHECKS.due("passed at 0", x.passed(0, 2, 0, 1), 0);
        CHECKS.due("passed at 1 by 6", x.passed(0, 2, 1, 6), 1);
        CHECKS.due("passed at 1", x.passed(2, 0, 1, 1), 3);
        CHECKS.due("passed, never", x.passed(1, 2, 5, 1), 0);
        CHECKS.due("passed, always", x.passed(1, 3, 5, 1), -2);
        CHECKS.due("passed(1, 1)", x.passed(1, 1, 5, 1), NONE);
        // The faster one is ahead by 3: met at 3 by 4, not at 1 by 4; behind by 3: at 1 by 4.
        x = Checks.with(4, 3, 3, 0);
        CHECKS.due("passed at 1 by 2", x.passed(0, 1, 1, 2), 0);
        CHECKS.due("passed at 3 by 4", x.passed(1, 0, 3, 4), 1);
        x = Checks.with(4, 0, 3, 3);
        CHECKS.due("passed at 1 by 4", x.passed(1, 0, 1, 4), 1);
        CHECKS.due("passed at 40 by 1", Checks.with(40, 0, 0, 0).passed(0, 1, 9999, 1), 399961);
    }
}
