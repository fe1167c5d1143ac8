/** Promises 48 to 65: on a grid, modulo a number, were, texts. */
public final class GridAndTextsTest {
    private static final int NONE = -1;
    private static final Checks CHECKS = new Checks();

    public static void main(String[] args) {
        wrongInputs();
        grids();
        leastGrids();
        modulo();
        primes();
        were();
        kindest();
        without();
        spell();
        report();
        tells();
        counts();
        CHECKS.finish(48, 65);
    }

    private static RingRunners three() {
        return Checks.with(0, 0, 1, 0, 2, 0);
    }

    private static RingRunners split() {
        return Checks.with(0, 0, 1, 0, 1, 6);
    }

    private static void wrongInputs() {
        RingRunners x = three();
        for (int i : new int[] {-1, 3, 6, Integer.MAX_VALUE, Integer.MIN_VALUE}) {
            noRunner(x, i);
        }
        for (int m : new int[] {0, -1, 1000, Integer.MAX_VALUE, Integer.MIN_VALUE}) {
            CHECKS.promise(48);
            CHECKS.due("grid by " + m, x.grid(0, m, 0), NONE);
            CHECKS.promise(49);
            CHECKS.due("dense by " + m, x.dense(0, m), NONE);
            CHECKS.promise(53);
            CHECKS.due("rests by " + m, x.rests(0, m), NONE);
        }
        CHECKS.promise(53);
        CHECKS.due("rests by 31", x.rests(0, 31), NONE);
        CHECKS.promise(48);
        CHECKS.due("grid(0, 5, 3)", x.grid(0, 5, 3), NONE);
        CHECKS.due("grid(0, 5, -1)", x.grid(0, 5, -1), NONE);
        CHECKS.promise(55);
        CHECKS.due("were(0, 1, 41, 0)", x.were(0, 1, 41, 0), NONE);
        CHECKS.due("were(0, 1, -1, 0)", x.were(0, 1, -1, 0), NONE);
        CHECKS.due("were(0, 1, 5, 4)", x.were(0, 1, 5, 4), NONE);
        CHECKS.due("were(0, 1, 5, -1)", x.were(0, 1, 5, -1), NONE);
        CHECKS.promise(56);
        CHECKS.due("kindest(1, 1)", x.kindest(1, 1), NONE);
        CHECKS.promise(57);
        CHECKS.due("kindestStart(1, 1)", x.kindestStart(1, 1), NONE);
        CHECKS.promise(58);
        CHECKS.due("harsh(1, 1)", x.harsh(1, 1), NONE);
        CHECKS.promise(59);
        CHECKS.due("without(1, 1, 0)", x.without(1, 1, 0), NONE);
        CHECKS.due("without(1, 0, 4)", x.without(1, 0, 4), NONE);
        CHECKS.due("without(1, 0, -1)", x.without(1, 0, -1), NONE);
        CHECKS.promise(60);
        CHECKS.due("loneliest() of none", new RingRunners().loneliest(), NONE);
    }

    private static void noRunner(RingRunners x, int i) {
        String who = " of " + i;
        CHECKS.promise(48);
        CHECKS.due("grid" + who, x.grid(i, 5, 0), NONE);
        CHECKS.promise(49);
        CHECKS.due("dense" + who, x.dense(i, 5), NONE);
        CHECKS.promise(50);
        CHECKS.due("leastGrid" + who, x.leastGrid(i), NONE);
        CHECKS.promise(51);
        CHECKS.due("divided" + who, x.divided(i), NONE);
        CHECKS.promise(52);
        CHECKS.due("mates" + who, x.mates(i), NONE);
        CHECKS.promise(53);
        CHECKS.due("rests" + who, x.rests(i, 5), NONE);
        CHECKS.promise(55);
        CHECKS.due("were" + who, x.were(i, 0, 5, 0), NONE);
        CHECKS.due("were by" + who, x.were(0, i, 5, 0), NONE);
        CHECKS.promise(56);
        CHECKS.due("kindest" + who, x.kindest(i, 0), NONE);
        CHECKS.due("kindest by" + who, x.kindest(0, i), NONE);
        CHECKS.promise(57);
        CHECKS.due("kindestStart" + who, x.kindestStart(i, 0), NONE);
        CHECKS.due("kindestStart by" + who, x.kindestStart(0, i), NONE);
        CHECKS.promise(58);
        CHECKS.due("harsh" + who, x.harsh(i, 0), NONE);
        CHECKS.due("harsh by" + who, x.harsh(0, i), NONE);
        CHECKS.promise(59);
        CHECKS.due("without" + who, x.without(i, 0, 0), NONE);
        CHECKS.due("without by" + who, x.without(0, i, 0), NONE);
        CHECKS.promise(62);
        CHECKS.due("report" + who, x.report(i, -1), NONE);
        CHECKS.due("report 999" + who, x.report(i, 999), NONE);
        CHECKS.promise(65);
        CHECKS.due("of" + who, x.of(i, 0), NONE);
        CHECKS.due("of" + who, x.of(i, 1), NONE);
    }

    private static void grids() {
        CHECKS.promise(48);
        RingRunners x = three();
        grid(x, 0, 4, 1, 4, 1);
        grid(x, 0, 3, 1, 3, 1);
        grid(x, 1, 4, 1, 2, 2);
        grid(x, 0, 1, 0, 1, 0);
        grid(x, 0, 2, 0, 1, 0);
        grid(x, 0, 999, 1, 3, 333);
        grid(x, 0, 998, 166, 499, 332);
        grid(x, 1, 5, 2, 5, 2);
        grid(split(), 2, 5, 1, 2, 0);
        grid(split(), 0, 12, 1, 4, 3);
        grid(Checks.with(40, 11), 0, 999, 1, 2, 0);

        CHECKS.promise(49);
        CHECKS.due("dense(1, 6)", x.dense(1, 6), 3);
        CHECKS.due("dense(1, 999)", x.dense(1, 999), 334);
        CHECKS.due("dense(0, 999)", x.dense(0, 999), 2);
        CHECKS.due("dense(0, 998)", x.dense(0, 998), 0);
        CHECKS.due("dense(0, 1)", x.dense(0, 1), 0);
        // 0 counts, 1 does not.
        CHECKS.due("dense(2, 6)", split().dense(2, 6), 3);
        CHECKS.due("dense(2, 1)", split().dense(2, 1), 1);
        CHECKS.due("dense of one", Checks.with(3, 3).dense(0, 999), 999);
    }

    private static void grid(RingRunners x, int i, int m, int upper, int lower, int a) {
        CHECKS.dueParts("grid of " + i + " by " + m, x.grid(i, m, 0), x.grid(i, m, 1), upper, lower);
        CHECKS.due("least a of " + i + " by " + m, x.grid(i, m, 2), a);
    }

    private static void leastGrids() {
        CHECKS.promise(50);
        CHECKS.due("leastGrid(0)", three().leastGrid(0), 3);
        CHECKS.due("leastGrid(1)", three().leastGrid(1), 2);
        CHECKS.due("leastGrid(0)", split().leastGrid(0), -2);
        CHECKS.due("leastGrid(2)", split().leastGrid(2), 1);
        CHECKS.due("leastGrid of one", Checks.with(3, 3).leastGrid(0), 1);
        CHECKS.due("leastGrid(0)", Checks.with(0, 0, 40, 0).leastGrid(0), 16);
        CHECKS.due("leastGrid(3)", Checks.with(29, 11, 4, 6, 4, 0, 40, 10).leastGrid(3), 432);
        CHECKS.due("leastGrid(2)", Checks.with(36, 0, 36, 8, 9, 11).leastGrid(2), 324);
        CHECKS.due("leastGrid(0)", Checks.with(1, 1, 1, 1).leastGrid(0), -2);
    }

    private static void modulo() {
        RingRunners x = Checks.with(4, 0, 10, 0, 4, 5, 40, 1);
        CHECKS.promise(51);
        CHECKS.due("divided(0)", x.divided(0), 6);
        CHECKS.due("divided(1)", x.divided(1), 6);
        CHECKS.due("divided(3)", x.divided(3), 6);
        CHECKS.due("divided(1)", Checks.with(0, 0, 4, 0, 10, 0).divided(1), 2);
        CHECKS.due("divided of like ones", Checks.with(4, 0, 4, 1).divided(0), 0);
        CHECKS.due("divided of one", Checks.with(4, 0).divided(0), 0);
        CHECKS.due("divided of two", Checks.with(0, 0, 40, 0).divided(0), 40);
        CHECKS.due("divided", Checks.with(0, 0, 40, 0, 39, 0).divided(2), 1);

        CHECKS.promise(52);
        CHECKS.due("mates(0)", x.mates(0), 4);
        CHECKS.due("mates(2)", x.mates(2), 1);
        CHECKS.due("mates(1)", x.mates(1), 0);

        CHECKS.promise(53);
        CHECKS.due("rests(0, 30)", x.rests(0, 30), 1 << 6 | 1);
        CHECKS.due("rests(1, 30)", x.rests(1, 30), 1 << 24 | 1);
        CHECKS.due("rests(3, 5)", x.rests(3, 5), 1 << 4 | 1);
        CHECKS.due("rests(0, 1)", x.rests(0, 1), 1);
        CHECKS.due("rests(0, 30)", Checks.with(40, 0, 9, 0, 11, 1).rests(0, 30), 1 << 29 | 1 << 1);
        CHECKS.due("rests(1, 7)", Checks.with(3, 0, 4, 0, 10, 0).rests(1, 7), 1 << 6);
        CHECKS.due("rests(2, 7)", Checks.with(5, 0, 4, 0, 10, 0).rests(2, 7), 1 << 2 | 1 << 1);
        CHECKS.due("rests of one", Checks.with(40, 0).rests(0, 7), 0);
    }

    private static void primes() {
        CHECKS.promise(54);
        CHECKS.due("prime of none", new RingRunners().prime(), 2);
        CHECKS.due("prime of one", Checks.with(40, 0).prime(), 2);
        CHECKS.due("prime", Checks.with(0, 0, 1, 0).prime(), 2);
        CHECKS.due("prime", Checks.with(0, 0, 2, 0).prime(), 3);
        CHECKS.due("prime", Checks.with(0, 0, 30, 0).prime(), 7);
        CHECKS.due("prime", Checks.with(5, 0, 5, 1).prime(), -2);
        CHECKS.due("prime", Checks.with(0, 0, 1, 0, 2, 0, 3, 0, 4, 0, 5, 0).prime(), 7);
        // Every prime up to 19 divides some difference.
        CHECKS.due("prime", Checks.with(0, 0, 30, 0, 38, 0, 4, 0, 26, 0, 37, 0).prime(), 23);
    }

    private static void dueBest(String call, long[] got, int upper, int lower, int timeUpper, int timeLower) {
        CHECKS.dueParts(call, got[0], got[1], upper, lower);
        CHECKS.dueParts(call + " first", got[2], got[3], timeUpper, timeLower);
    }

    private static long[] were(RingRunners x, int i, int j, int v) {
        return new long[] {x.were(i, j, v, 0), x.were(i, j, v, 1), x.were(i, j, v, 2), x.were(i, j, v, 3)};
    }

    private static void were() {
        CHECKS.promise(55);
        RingRunners x = three();
        dueBest("were(0, 2, 3)", were(x, 0, 2, 3), 1, 2, 1, 2);
        dueBest("were(0, 2, 2)", were(x, 0, 2, 2), 1, 3, 1, 3);
        dueBest("were(0, 2, 0)", were(x, 0, 2, 0), 0, 1, 0, 1);
        dueBest("were(0, 0, 3)", were(x, 0, 0, 3), 1, 3, 1, 3);
        dueBest("were(0, 0, 1)", were(x, 0, 0, 1), 0, 1, 0, 1);
        dueBest("were(2, 2, 40)", were(x, 2, 2, 40), 39, 79, 1, 79);
        dueBest("were(2, 0, 40)", were(x, 2, 0, 40), 19, 39, 19, 39);
        // Nothing happens.
        CHECKS.dueState(x, "run 0;run 1;run 2;");
        CHECKS.due("count(3)", x.count(3), 3);
        CHECKS.due("best(0, 1)", x.best(0, 1), 3);
        dueBest("were of one", were(Checks.with(3, 3), 0, 0, 9), 1, 2, 0, 1);
    }

    private static void kindest() {
        CHECKS.promise(56);
        RingRunners x = Checks.with(0, 0, 20, 0, 19, 0);
        // 20 is farthest at odd 40ths, of which 4 has some. 20 is 1 off 19: any odd difference will do.
        CHECKS.due("kindest(0, 2)", x.kindest(0, 2), 4);
        CHECKS.due("kindest(2, 0)", x.kindest(2, 0), 0);
        CHECKS.dueState(x, "run 0;run 20;run 19;");
        CHECKS.due("count(3)", x.count(3), 3);
        CHECKS.due("kindest(0, 1)", Checks.with(5, 0, 5, 0).kindest(0, 1), 0);
        CHECKS.due("kindest(0, 1)", Checks.with(0, 0, 5, 0).kindest(0, 1), 1);
        CHECKS.due("kindest(0, 1)", Checks.with(0, 0, 5, 6).kindest(0, 1), 0);
        CHECKS.due("kindest(0, 1)", Checks.with(7, 3, 36, 10, 3, 3).kindest(0, 1), 40);
        x = Checks.with(3, 2, 20, 5, 11, 9, 36, 4);
        CHECKS.due("kindest(0, 1)", x.kindest(0, 1), 31);
        CHECKS.due("kindest(1, 0)", x.kindest(1, 0), 27);

        CHECKS.promise(57);
        CHECKS.due("kindestStart(0, 1)", x.kindestStart(0, 1), 2);
        CHECKS.due("kindestStart(1, 0)", x.kindestStart(1, 0), 0);
        CHECKS.due("kindestStart(0, 1)", Checks.with(3, 2, 3, 0).kindestStart(0, 1), 8);
        CHECKS.due("kindestStart(1, 0)", Checks.with(3, 2, 3, 5).kindestStart(1, 0), 11);
        CHECKS.due("kindestStart(0, 1)", Checks.with(3, 2, 4, 5).kindestStart(0, 1), 0);
        x = Checks.with(3, 2, 4, 5, 3, 9, 3, 4, 3, 4);
        CHECKS.due("kindestStart(1, 0)", x.kindestStart(1, 0), 4);
        CHECKS.dueState(x, "run 3 from 2;run 4 from 5;run 3 from 9;run 3 from 4;run 3 from 4;");

        CHECKS.promise(58);
        CHECKS.due("harsh(0, 1)", x.harsh(0, 1), 41);
        CHECKS.due("harsh(1, 0)", x.harsh(1, 0), 1);
        CHECKS.dueState(x, "run 3 from 2;run 4 from 5;run 3 from 9;run 3 from 4;run 3 from 4;");
        CHECKS.due("count(3)", x.count(3), 5);
        CHECKS.due("harsh(0, 2)", three().harsh(0, 2), 1);
        CHECKS.due("harsh(0, 1)", Checks.with(7, 1, 3, 2).harsh(0, 1), 1);
        CHECKS.due("harsh(0, 1)", Checks.with(7, 1, 3, 7).harsh(0, 1), 0);
        CHECKS.due("harsh(0, 1)", Checks.with(7, 1, 3, 7, 7, 1).harsh(0, 1), 41);
        CHECKS.due("harsh(1, 0)", Checks.with(7, 1, 3, 7, 7, 1).harsh(1, 0), 0);
    }

    private static long[] without(RingRunners x, int i, int j) {
        return new long[] {x.without(i, j, 0), x.without(i, j, 1), x.without(i, j, 2), x.without(i, j, 3)};
    }

    private static void without() {
        CHECKS.promise(59);
        RingRunners x = three();
        dueBest("without(0, 1)", without(x, 0, 1), 1, 2, 1, 4);
        dueBest("without(0, 2)", without(x, 0, 2), 1, 2, 1, 2);
        dueBest("without(1, 0)", without(x, 1, 0), 1, 2, 1, 2);
        dueBest("without(2, 1)", without(x, 2, 1), 1, 2, 1, 4);
        dueBest("without(2, 0)", without(Checks.with(0, 0, 8, 0, 7, 0, 1, 0), 2, 0), 3, 7, 3, 7);
        dueBest("without all", without(Checks.with(1, 1, 2, 2), 1, 0), 1, 2, 0, 1);
        CHECKS.dueState(x, "run 0;run 1;run 2;");
        CHECKS.due("count(3)", x.count(3), 3);

        CHECKS.promise(60);
        CHECKS.due("loneliest()", x.loneliest(), 0);
        CHECKS.due("loneliest()", Checks.with(1, 0, 2, 0, 0, 0).loneliest(), 1);
        CHECKS.due("loneliest()", split().loneliest(), 0);
        CHECKS.due("loneliest()", Checks.with(0, 0, 8, 0, 7, 0, 1, 0).loneliest(), 2);
        CHECKS.due("loneliest of one", Checks.with(1, 0).loneliest(), 0);
        CHECKS.due("loneliest of like ones", Checks.with(1, 0, 1, 0).loneliest(), 0);
        CHECKS.due("loneliest()", Checks.with(5, 0, 5, 6, 5, 11).loneliest(), 0);
        CHECKS.due("loneliest()", Checks.with(5, 6, 5, 0, 5, 11).loneliest(), 1);
    }

    private interface Teller {
        int tell(int i);
    }

    private static void dueText(Teller teller, String want) {
        CHECKS.due("length of " + want, teller.tell(-1), want.length());
        for (int n = 0; n < want.length(); n++) {
            CHECKS.due("byte " + n + " of " + want, teller.tell(n), want.charAt(n));
        }
        CHECKS.due("byte behind " + want, teller.tell(want.length()), -2);
        CHECKS.due("byte far behind " + want, teller.tell(Integer.MAX_VALUE), -2);
        CHECKS.due("byte ahead of " + want, teller.tell(-2), NONE);
        CHECKS.due("byte far ahead of " + want, teller.tell(Integer.MIN_VALUE), NONE);
    }

    private static void spell() {
        CHECKS.promise(61);
        dueText(new RingRunners()::spell, "");
        dueText(Checks.with(0, 0)::spell, "run 0;");
        dueText(Checks.with(10, 1, 40, 11, 9, 0, 0, 10)::spell, "run 10 from 1;run 40 from 11;run 9;run 0 from 10;");
    }

    private static void report() {
        CHECKS.promise(62);
        dueText(i -> Checks.with(4, 4).report(0, i), "0 by 1 to 1 by 1;hours 1 by 1;");
        dueText(i -> three().report(0, i), "1 by 3 to 1 by 3;2 by 3 to 2 by 3;hours 0 by 1;");
        dueText(i -> three().report(1, i), "1 by 3 to 2 by 3;hours 1 by 3;");
        dueText(i -> split().report(0, i), "hours 0 by 1;");
        dueText(i -> split().report(2, i), "0 by 1 to 1 by 6;5 by 6 to 1 by 1;hours 1 by 3;");
        RingRunners x = Checks.with(37, 1, 25, 8, 0, 10, 38, 11, 29, 6, 39, 7);
        int length = x.report(2, -1);
        String end = "hours 61585429 by 477055800;";
        for (int n = 0; n < end.length(); n++) {
            CHECKS.due("end of a long report", x.report(2, length - end.length() + n), end.charAt(n));
        }
        CHECKS.due("length of a long report", Checks.with(0, 0, 39, 7, 39, 1, 39, 1).report(0, -1), 1821);
    }

    private static void tells() {
        CHECKS.promise(63);
        dueText(i -> new RingRunners().tells(0, 1, i), "");
        dueText(i -> Checks.with(0, 0, 1, 3, 5, 6).tells(1, 4, i), "0 at 0 by 1;1 at 1 by 2;2 at 3 by 4;");
        dueText(i -> Checks.with(4, 0, 1, 0, 2, 0, 3, 6).tells(2, 3, i),
            "2 at 1 by 3;3 at 1 by 2;0 at 2 by 3;1 at 2 by 3;");
        dueText(i -> Checks.with(1, 1).tells(1, 997, i), "0 at 1009 by 11964;");
        RingRunners x = three();
        CHECKS.due("tells at 10000 by 1", x.tells(10000, 1, 0), NONE);
        CHECKS.due("tells at -1 by 1", x.tells(-1, 1, 0), NONE);
        CHECKS.due("tells at 1 by 0", x.tells(1, 0, 99999), NONE);
        CHECKS.due("tells at 1 by 1000", x.tells(1, 1000, -1), NONE);
        CHECKS.due("tells of none at no time", new RingRunners().tells(1, 0, 0), NONE);
    }

    private static void counts() {
        CHECKS.promise(64);
        RingRunners x = Checks.with(5, 1, 40, 11, 5, 0);
        Checks.feed(x, "                    ");
        x.keep(0);
        x.drop(0);
        x.keep(2);
        int[] due = {2, 45, 11, 4, 20, 40, 2, 3, 0, 2};
        for (int what = 0; what < due.length; what++) {
            CHECKS.due("count(" + what + ")", x.count(what), due[what]);
        }
        x.undo();
        CHECKS.due("count(6) of like ones", x.count(6), 2);
        CHECKS.due("count(1)", x.count(1), 50);
        for (int what : new int[] {-1, 10, Integer.MAX_VALUE, Integer.MIN_VALUE, Integer.MIN_VALUE + 8}) {
            CHECKS.due("count(" + what + ")", x.count(what), NONE);
        }

        CHECKS.promise(65);
        CHECKS.due("of(1, 0)", x.of(1, 0), 40);
        CHECKS.due("of(1, 1)", x.of(1, 1), 11);
        CHECKS.due("of(2, 1)", x.of(2, 1), 0);
        CHECKS.due("of(1, 2)", x.of(1, 2), NONE);
        CHECKS.due("of(1, -1)", x.of(1, -1), NONE);
    }
}
