/** The bounds that promises 48 to 65 tell, each sentence with a test of its own. */
public final class GridAndTextsBoundsTest {
    private static final int NONE = Sentences.NONE;
    private static final int LEAST = Sentences.LEAST;
    private static final int MOST = Sentences.MOST;
    private static final int[] NO_BEST_PARTS = {-1, 4, LEAST, MOST};
    private static final Sentences S = new Sentences();

    private interface Teller {
        int tell(RingRunners x, int i);
    }

    public static void main(String[] args) {
        grid();
        dense();
        leastGrid();
        divided();
        mates();
        rests();
        prime();
        were();
        kindest();
        kindestStart();
        harsh();
        without();
        loneliest();
        spell();
        report();
        tells();
        count();
        of();
        S.finish(48, 65);
    }

    private static RingRunners meeting3() {
        return Checks.with(0, 0, 1, 0, 2, 0);
    }

    private static RingRunners split() {
        return Checks.with(0, 0, 1, 0, 1, 6);
    }

    private static void grid() {
        S.says(48, "The greatest NEAREST of a RUNNER at TIMES a by m (m 1 .. 999, a 0 .. m less 1)");
        RingRunners two = Checks.with(0, 0, 1, 0);
        S.dueFraction("grid by 1", lower -> two.grid(0, 1, lower ? 1 : 0), 0, 1);
        S.dueFraction("grid by 2", lower -> two.grid(0, 2, lower ? 1 : 0), 1, 2);
        S.dueFraction("grid by 3", lower -> two.grid(0, 3, lower ? 1 : 0), 1, 3);
        S.dueFraction("grid by 999", lower -> two.grid(0, 999, lower ? 1 : 0), 499, 999);
        S.dueFraction("grid by 998", lower -> two.grid(0, 998, lower ? 1 : 0), 1, 2);
        S.due("grid by 1000", two.grid(0, 1000, 0), NONE);
        S.due("grid by 0", two.grid(0, 0, 0), NONE);
        // The last a is as good as any, and only it is at 11 by 12.
        S.due("grid by 12, at its last a", Checks.with(0, 0, 1, 7).grid(0, 12, 2), 11);
        S.dueFraction("grid by 12", lower -> Checks.with(0, 0, 1, 7).grid(0, 12, lower ? 1 : 0), 1, 2);
        S.dueFraction("grid of one", lower -> Checks.with(3, 3).grid(0, 999, lower ? 1 : 0), 1, 2);

        S.says(48, "2 the least such a");
        S.due("least a by 1", two.grid(0, 1, 2), 0);
        S.due("least a by 3", two.grid(0, 3, 2), 1);
        S.due("least a by 999", two.grid(0, 999, 2), 499);
        S.due("least a of one", Checks.with(3, 3).grid(0, 999, 2), 0);
        S.due("least a of like ones", Checks.with(3, 3, 3, 3).grid(0, 999, 2), 0);

        S.says(48, "NONE: no such ones.");
        for (int what = 0; what <= 2; what++) {
            int which = what;
            S.noSuchOne("grid, " + what + ",", (x, i) -> x.grid(i, 5, which));
            for (int m : new int[] {0, -1, 1000, LEAST, MOST}) {
                S.due("grid by " + m + ", " + what, meeting3().grid(1, m, what), NONE);
            }
        }
        for (int what : new int[] {-1, 3, LEAST, MOST}) {
            S.due("grid, " + what, meeting3().grid(1, 5, what), NONE);
        }
    }

    private static void dense() {
        S.says(49, "(a 0 .. m less 1, m 1 .. 999)");
        S.due("dense by 1, always", Checks.with(3, 3).dense(0, 1), 1);
        S.due("dense by 999, always", Checks.with(3, 3).dense(0, 999), 999);
        // Lonely at the times 0 and 1: of them 0 alone is asked.
        S.due("dense by 1, at 0", Checks.with(0, 0, 1, 6).dense(0, 1), 1);
        S.due("dense by 2, at 0", Checks.with(0, 0, 1, 6).dense(0, 2), 1);
        S.due("dense by 999, at 0", Checks.with(0, 0, 1, 6).dense(0, 999), 1);
        // At its last a alone.
        S.due("dense by 12, at 11 by 12", Checks.with(0, 0, 1, 7).dense(0, 12), 1);
        S.due("dense by 11, never", Checks.with(0, 0, 1, 7).dense(0, 11), 0);
        S.due("dense by 6, both ends", split().dense(1, 6), 3);

        S.says(49, "NONE: no such ones.");
        S.noSuchOne("dense", (x, i) -> x.dense(i, 5));
        for (int m : new int[] {0, -1, 1000, LEAST, MOST}) {
            S.due("dense by " + m, meeting3().dense(1, m), NONE);
        }
    }

    private static void leastGrid() {
        S.says(50, "The least m (1 .. 999) with which a RUNNER is LONELY at some a by m");
        S.due("leastGrid of one", Checks.with(3, 3).leastGrid(0), 1);
        S.due("leastGrid, at 0", split().leastGrid(2), 1);
        S.due("leastGrid, at 1 by 2", split().leastGrid(1), 2);
        S.due("leastGrid, at 11 by 12", Checks.with(0, 0, 1, 7).leastGrid(0), 12);
        S.due("leastGrid of 40", Checks.with(0, 0, 40, 0).leastGrid(1), 16);
        S.due("leastGrid, far on", Checks.with(39, 3, 36, 11, 39, 9, 0, 1).leastGrid(3), 468);
        // The greatest that a search among all kinds has found.
        S.due("leastGrid, far on", Checks.with(3, 5, 27, 3, 15, 11, 27, 10, 39, 8).leastGrid(0), 720);

        S.says(50, "-2: with none");
        S.due("leastGrid of like ones", Checks.with(3, 3, 3, 3).leastGrid(0), -2);
        S.due("leastGrid of one that never is", split().leastGrid(0), -2);

        S.says(50, "NONE: no such one.");
        S.noSuchOne("leastGrid", (x, i) -> x.leastGrid(i));
    }

    private static void divided() {
        S.says(51, "(0: all are alike)");
        S.due("divided of one", Checks.with(3, 3).divided(0), 0);
        S.due("divided of like ones", Checks.with(3, 3, 3, 4, 3, 5).divided(1), 0);
        S.due("divided, one unlike", Checks.with(3, 3, 3, 4, 7, 5).divided(1), 4);
        S.due("divided, the one unlike", Checks.with(3, 3, 3, 4, 7, 5).divided(2), 4);
        S.due("divided, 40", Checks.with(0, 0, 40, 0).divided(1), 40);
        S.due("divided, 1", Checks.with(0, 0, 40, 0, 39, 0).divided(0), 1);

        S.says(51, "NONE: no such one.");
        S.noSuchOne("divided", (x, i) -> x.divided(i));
    }

    private static void mates() {
        S.says(52, "Other RUNNERS of the same SPEED (bits)");
        RingRunners like = Checks.with(3, 3, 3, 4, 3, 5, 3, 6, 3, 7, 3, 8);
        S.due("mates of the first of six", like.mates(0), 62);
        S.due("mates of the last of six", like.mates(5), 31);
        S.due("mates of one", Checks.with(3, 3).mates(0), 0);
        S.due("mates of one with like starts", Checks.with(3, 3, 4, 3).mates(0), 0);

        S.says(52, "NONE: no such RUNNER.");
        S.noSuchOne("mates", (x, i) -> x.mates(i));
    }

    private static void rests() {
        S.says(53, "The numbers 0 .. m less 1 (m 1 .. 30)");
        RingRunners x = Checks.with(0, 0, 29, 0, 30, 0, 31, 0, 40, 0);
        S.due("rests by 1", x.rests(0, 1), 1);
        S.due("rests by 30", x.rests(0, 30), 1 << 29 | 1 | 1 << 1 | 1 << 10);
        S.due("rests by 29", x.rests(0, 29), 1 | 1 << 1 | 1 << 2 | 1 << 11);
        S.due("rests by 31", x.rests(0, 31), NONE);
        S.due("rests by 0", x.rests(0, 0), NONE);

        S.says(53, "that SPEEDS of other RUNNERS less that of a RUNNER are modulo m (bits)");
        S.due("rests, below 0", Checks.with(40, 0, 39, 0).rests(0, 30), 1 << 29);
        S.due("rests, below -30", Checks.with(40, 0, 0, 0).rests(0, 30), 1 << 20);
        S.due("rests, -40 by 20", Checks.with(40, 0, 0, 0).rests(0, 20), 1);
        S.due("rests of like ones", Checks.with(3, 0, 3, 1).rests(0, 30), 1);
        S.due("rests of one", Checks.with(3, 0).rests(0, 30), 0);

        S.says(53, "NONE: no such ones.");
        S.noSuchOne("rests", (y, i) -> y.rests(i, 5));
        for (int m : new int[] {0, -1, 31, 999, LEAST, MOST}) {
            S.due("rests by " + m, meeting3().rests(1, m), NONE);
        }
    }

    private static void prime() {
        S.says(54, "The least prime (2 .. 97)");
        S.due("prime of none", new RingRunners().prime(), 2);
        S.due("prime of one", Checks.with(40, 0).prime(), 2);
        S.due("prime of two", Checks.with(40, 0, 39, 0).prime(), 2);
        S.due("prime of three", Checks.with(0, 0, 1, 0, 2, 0).prime(), 3);
        S.due("prime of four", Checks.with(0, 0, 1, 0, 2, 0, 3, 0).prime(), 5);
        S.due("prime of six", Checks.with(0, 0, 1, 0, 2, 0, 3, 0, 4, 0, 5, 0).prime(), 7);
        S.due("prime 11", Checks.with(0, 0, 1, 0, 2, 0, 3, 0, 4, 0, 7, 0).prime(), 11);
        S.due("prime 13", Checks.with(0, 0, 1, 0, 2, 0, 3, 0, 4, 0, 11, 0).prime(), 13);
        S.due("prime 17", Checks.with(0, 0, 1, 0, 2, 0, 3, 0, 4, 0, 14, 0).prime(), 17);
        S.due("prime 19", Checks.with(0, 0, 1, 0, 2, 0, 3, 0, 8, 0, 34, 0).prime(), 19);
        S.due("prime 23", Checks.with(0, 0, 1, 0, 2, 0, 3, 0, 13, 0, 20, 0).prime(), 23);
        S.due("prime 29", Checks.with(0, 0, 1, 0, 2, 0, 3, 0, 23, 0, 40, 0).prime(), 29);
        S.due("prime 31", Checks.with(0, 0, 1, 0, 2, 0, 6, 0, 29, 0, 40, 0).prime(), 31);
        S.due("prime 37", Checks.with(0, 0, 1, 0, 2, 0, 23, 0, 31, 0, 40, 0).prime(), 37);
        // More than 40 is between no two of them: no greater prime is ever told.
        S.due("prime 41", Checks.with(0, 0, 1, 0, 9, 0, 23, 0, 38, 0, 40, 0).prime(), 41);

        S.says(54, "-2: none is");
        S.due("prime of like ones", Checks.with(3, 0, 3, 1).prime(), -2);
        S.due("prime of like ones, far apart", Checks.with(3, 0, 4, 1, 5, 0, 6, 0, 7, 0, 3, 0).prime(), -2);
    }

    private static void were() {
        S.says(55, "were SPEED of one (the same one or another) v");
        S.dueFraction("were of another", lower -> meeting3().were(0, 2, 3, lower ? 1 : 0), 1, 2);
        S.dueFraction("were of the same", lower -> meeting3().were(0, 0, 1, lower ? 1 : 0), 0, 1);
        S.dueFraction("were as it is", lower -> meeting3().were(0, 2, 2, lower ? 1 : 0), 1, 3);
        S.dueFraction("were of one", lower -> Checks.with(3, 3).were(0, 0, 40, lower ? 1 : 0), 1, 2);
        S.dueFraction("were first", lower -> Checks.with(0, 0, 5, 0).were(0, 1, 40, lower ? 3 : 2), 1, 80);
        S.dueFraction("were first", lower -> Checks.with(0, 0, 5, 3).were(0, 1, 0, lower ? 3 : 2), 0, 1);

        S.says(55, "NONE: no such ones");
        for (int what = 0; what <= 3; what++) {
            int which = what;
            S.noSuchOnes("were, " + what + ",", (x, i, j) -> x.were(i, j, 7, which));
        }
        S.noSuchOne("were of the same", (x, i) -> x.were(i, i, 7, 1));
        for (int what : NO_BEST_PARTS) {
            S.due("were, " + what, meeting3().were(0, 1, 7, what), NONE);
        }

        S.says(55, "out of bounds");
        for (int v : new int[] {-1, 41, LEAST, MOST}) {
            S.due("were " + v, meeting3().were(0, 1, v, 0), NONE);
            S.due("were " + v + ", of the same", meeting3().were(1, 1, v, 3), NONE);
        }
        S.dueTold("were 0", meeting3().were(0, 1, 0, 0));
        S.dueTold("were 40", meeting3().were(0, 1, 40, 0));
    }

    private static void kindest() {
        S.says(56, "SPEED (0 .. 40) of another RUNNER by which BEST of a RUNNER is greatest");
        S.due("kindest, 0", Checks.with(5, 0, 5, 0).kindest(0, 1), 0);
        S.due("kindest, 40", Checks.with(7, 3, 36, 10, 3, 3).kindest(0, 1), 40);
        S.due("kindest, as it is", Checks.with(0, 0, 1, 0).kindest(0, 1), 1);

        S.says(56, "of several the least");
        // One half with every speed but its own, or with it, too.
        S.due("kindest of 0", Checks.with(0, 0, 30, 0).kindest(0, 1), 1);
        S.due("kindest of 30", Checks.with(30, 0, 30, 0).kindest(0, 1), 0);
        S.due("kindest of 0, over the way", Checks.with(0, 0, 30, 6).kindest(0, 1), 0);
        S.due("kindest, whatever it is", Checks.with(3, 3, 9, 0, 3, 3).kindest(0, 1), 0);

        S.says(56, "NONE: no such ones");
        S.noSuchOnes("kindest", (x, i, j) -> x.kindest(i, j));

        S.says(56, "both are one");
        S.bothAreOne("kindest", (x, i, j) -> x.kindest(i, j));
    }

    private static void kindestStart() {
        S.says(57, "START (0 .. 11) of another RUNNER by which BEST of a RUNNER is greatest");
        S.due("kindestStart, 0", Checks.with(3, 6, 3, 5).kindestStart(0, 1), 0);
        S.due("kindestStart, 11", Checks.with(3, 5, 3, 0).kindestStart(0, 1), 11);
        S.due("kindestStart, as it is", Checks.with(3, 5, 3, 11).kindestStart(1, 0), 5);

        S.says(57, "of several the least");
        S.due("kindestStart of unlike speeds", Checks.with(3, 5, 4, 7).kindestStart(0, 1), 0);
        // One that stands at 1 by 4 keeps it there: 3 .. 9 twelfths off are as good.
        S.due("kindestStart beside a third", Checks.with(3, 0, 3, 7, 3, 3).kindestStart(0, 1), 3);
        S.due("kindestStart, whatever it is", Checks.with(3, 3, 9, 5, 3, 3).kindestStart(0, 1), 0);

        S.says(57, "NONE: no such ones");
        S.noSuchOnes("kindestStart", (x, i, j) -> x.kindestStart(i, j));

        S.says(57, "both are one");
        S.bothAreOne("kindestStart", (x, i, j) -> x.kindestStart(i, j));
    }

    private static void harsh() {
        S.says(58, "By how many SPEEDS (0 .. 40) of another RUNNER a RUNNER is never LONELY");
        S.due("harsh, none", Checks.with(3, 0, 9, 6).harsh(0, 1), 0);
        S.due("harsh, 0 alone", Checks.with(0, 0, 9, 1).harsh(0, 1), 1);
        S.due("harsh, 40 alone", Checks.with(40, 0, 9, 1).harsh(0, 1), 1);
        S.due("harsh, all", Checks.with(3, 3, 9, 0, 3, 3).harsh(0, 1), 41);

        S.says(58, "NONE: no such ones");
        S.noSuchOnes("harsh", (x, i, j) -> x.harsh(i, j));

        S.says(58, "both are one");
        S.bothAreOne("harsh", (x, i, j) -> x.harsh(i, j));
    }

    private static void without() {
        S.says(59, "NONE: no such ones");
        for (int what = 0; what <= 3; what++) {
            int which = what;
            S.noSuchOnes("without, " + what + ",", (x, i, j) -> x.without(i, j, which));
            S.bothAreOne("without, " + what + ",", (x, i, j) -> x.without(i, j, which));
        }
        for (int what : NO_BEST_PARTS) {
            S.due("without, " + what, meeting3().without(0, 1, what), NONE);
        }

        S.says(59, "both are one");
        S.bothAreOne("without", (x, i, j) -> x.without(i, j, 0));
        // Without all others it is alone, wherever its number comes to be.
        S.dueFraction("without, alone", lower -> Checks.with(3, 3, 3, 3).without(0, 1, lower ? 1 : 0), 1, 2);
        S.dueFraction("without, alone", lower -> Checks.with(3, 3, 3, 3).without(1, 0, lower ? 1 : 0), 1, 2);
        RingRunners x = Checks.with(5, 0, 5, 1, 5, 3, 5, 6, 5, 6, 5, 11);
        S.dueFraction("without the first", lower -> x.without(5, 0, lower ? 1 : 0), 1, 6);
        S.dueFraction("without the last", lower -> x.without(0, 5, lower ? 1 : 0), 1, 12);
        S.dueFraction("without one of two like ones", lower -> x.without(3, 4, lower ? 1 : 0), 1, 4);
        S.dueFraction("without one ahead", lower -> x.without(2, 1, lower ? 1 : 0), 1, 4);
    }

    private static void loneliest() {
        S.says(60, "The RUNNER whose BEST is least, of several the first");
        S.due("loneliest of one", Checks.with(3, 3).loneliest(), 0);
        S.due("loneliest of two", Checks.with(3, 3, 4, 4).loneliest(), 0);
        S.due("loneliest of six like ones", Checks.with(3, 3, 3, 3, 3, 3, 3, 3, 3, 3, 3, 3).loneliest(), 0);
        S.due("loneliest, 1 and 2 like", Checks.with(5, 6, 5, 0, 5, 11).loneliest(), 1);
        S.due("loneliest, the last two of six", Checks.with(5, 0, 5, 2, 5, 4, 5, 6, 5, 8, 5, 9).loneliest(), 4);

        S.says(60, "NONE: no RUNNERS.");
        S.due("loneliest of none", new RingRunners().loneliest(), NONE);
    }

    private static void dueLength(RingRunners x, Teller teller, String want) {
        S.due("length of " + want, teller.tell(x, NONE), want.length());
    }

    private static void dueBytes(RingRunners x, Teller teller, String want) {
        for (int n = 0; n < want.length(); n++) {
            S.due("byte " + n + " of " + want, teller.tell(x, n), want.charAt(n));
        }
    }

    private static void dueNoMore(RingRunners x, Teller teller, int length) {
        S.dueTold("byte " + (length - 1), teller.tell(x, length - 1));
        for (int n : new int[] {length, length + 1, 99999, MOST}) {
            S.due("byte " + n + " of " + length, teller.tell(x, n), -2);
        }
    }

    private static void dueNone(RingRunners x, Teller teller) {
        for (int n : new int[] {-2, -3, -4, LEAST, LEAST + 1}) {
            S.due("byte " + n, teller.tell(x, n), NONE);
        }
    }

    private static void spell() {
        Teller spell = (x, i) -> x.spell(i);
        String words = "run 0;run 40 from 11;run 9 from 1;run 10;";
        RingRunners x = Checks.with(0, 0, 40, 11, 9, 1, 10, 0);

        S.says(61, "(from told if it isn't 0)");
        dueBytes(Checks.with(5, 0), spell, "run 5;");
        dueBytes(Checks.with(5, 1), spell, "run 5 from 1;");
        dueBytes(Checks.with(0, 10), spell, "run 0 from 10;");

        S.says(61, "i NONE how many bytes");
        S.due("spell(NONE) of none", new RingRunners().spell(NONE), 0);
        S.due("spell(NONE) of one", Checks.with(0, 0).spell(NONE), 6);
        dueLength(x, spell, words);
        S.due("spell(NONE), the most", Checks.with(40, 11, 40, 11, 40, 11, 40, 11, 40, 11, 40, 11).spell(NONE), 90);

        S.says(61, "0 on: the i-th");
        dueBytes(x, spell, words);

        S.says(61, "-2: there are not so many");
        dueNoMore(x, spell, words.length());
        S.due("spell(0) of none", new RingRunners().spell(0), -2);

        S.says(61, "NONE: i below NONE.");
        dueNone(x, spell);
        dueNone(new RingRunners(), spell);
    }

    private static void report() {
        Teller first = (x, i) -> x.report(0, i);
        Teller last = (x, i) -> x.report(2, i);
        String words = "0 by 1 to 1 by 6;5 by 6 to 1 by 1;hours 1 by 3;";

        S.says(62, "for each (from, to), in order, then hours");
        dueBytes(split(), last, words);
        dueBytes(split(), first, "hours 0 by 1;");
        dueBytes(Checks.with(3, 3), first, "0 by 1 to 1 by 1;hours 1 by 1;");

        S.says(62, "i NONE how many bytes");
        dueLength(split(), first, "hours 0 by 1;");
        dueLength(split(), last, words);
        dueLength(Checks.with(3, 3), first, "0 by 1 to 1 by 1;hours 1 by 1;");

        S.says(62, "0 on: the i-th");
        dueBytes(meeting3(), first, "1 by 3 to 1 by 3;2 by 3 to 2 by 3;hours 0 by 1;");

        S.says(62, "-2: there are not so many");
        dueNoMore(split(), last, words.length());
        dueNoMore(split(), first, 13);

        S.says(62, "NONE: no such RUNNER");
        for (int i : new int[] {NONE, 0, 5, 99999, -2}) {
            S.due("report of none such, " + i, split().report(3, i), NONE);
            S.due("report of -1, " + i, split().report(-1, i), NONE);
            S.due("report among none, " + i, new RingRunners().report(0, i), NONE);
        }
        S.noSuchOne("report", (x, i) -> x.report(i, NONE));
        S.noSuchOne("report 0", (x, i) -> x.report(i, 0));

        S.says(62, "i below NONE");
        dueNone(split(), first);
        dueNone(split(), last);
    }

    private static void tells() {
        Teller tells = (x, i) -> x.tells(1, 4, i);
        String words = "0 at 0 by 1;1 at 1 by 2;2 at 3 by 4;";

        S.says(63, "for each RUNNER N at N by N; (its number, its PLACE), by PLACES as ranked() tells");
        dueBytes(Sentences.three(), tells, words);
        dueBytes(Checks.with(0, 7, 0, 0, 0, 7, 0, 11), tells, "1 at 0 by 1;0 at 7 by 12;2 at 7 by 12;3 at 11 by 12;");

        S.says(63, "i NONE how many bytes");
        dueLength(Sentences.three(), tells, words);
        S.due("tells of none", new RingRunners().tells(1, 4, NONE), 0);

        S.says(63, "0 on: the i-th");
        dueBytes(Sentences.with(1, 1), (x, i) -> x.tells(1, 997, i), "0 at 1009 by 11964;");

        S.says(63, "-2: there are not so many");
        dueNoMore(Sentences.three(), tells, words.length());
        S.due("tells of none, 0", new RingRunners().tells(1, 4, 0), -2);

        S.says(63, "NONE: no such TIME");
        for (int i : new int[] {NONE, 0, 5, 99999, -2}) {
            S.noTime("tells, " + i + ",", (x, p, q) -> x.tells(p, q, i));
            S.due("tells of none at no time, " + i, new RingRunners().tells(1, 0, i), NONE);
        }
        S.noSuchTime("tells", (x, p, q) -> x.tells(p, q, 0));

        S.says(63, "i below NONE");
        dueNone(Sentences.three(), tells);
        dueNone(new RingRunners(), tells);
    }

    private static void count() {
        S.says(64, "5 the greatest SPEED (0 without)");
        S.due("count(5) of none", new RingRunners().count(5), 0);
        S.due("count(5) of a still one", Checks.with(0, 7).count(5), 0);
        S.due("count(5), the first", Checks.with(40, 0, 3, 0).count(5), 40);
        S.due("count(5), the last", Sentences.six().count(5), 40);

        S.says(64, "7 to 9 how many RUNNERS are kept at MARK 0 to 2 (0: empty, too)");
        RingRunners x = Sentences.six();
        for (int mark = 0; mark < 3; mark++) {
            S.due("count of an empty mark " + mark, x.count(7 + mark), 0);
        }
        x.keep(0);
        x.drop(5);
        x.keep(2);
        S.due("count(7)", x.count(7), 6);
        S.due("count(8)", x.count(8), 0);
        S.due("count(9)", x.count(9), 5);
        RingRunners none = new RingRunners();
        none.keep(1);
        S.due("count(8), none kept", none.count(8), 0);

        S.says(64, "NONE for others.");
        for (int what : new int[] {-1, -2, 10, 11, LEAST, LEAST + 6, LEAST + 7, LEAST + 9, MOST}) {
            S.due("count(" + what + ")", Sentences.laden(5, 1).count(what), NONE);
        }
        S.due("count(0)", Sentences.laden(5, 1).count(0), 1);
        S.due("count(9)", Sentences.laden(5, 1).count(9), 0);
    }

    private static void of() {
        S.says(65, "NONE for others.");
        S.noSuchOne("of, 0,", (x, i) -> x.of(i, 0));
        S.noSuchOne("of, 1,", (x, i) -> x.of(i, 1));
        for (int what : new int[] {-1, 2, 3, LEAST, MOST}) {
            S.due("of(1, " + what + ")", Sentences.three().of(1, what), NONE);
        }
        S.due("of(1, 0)", Sentences.three().of(1, 0), 1);
        S.due("of(1, 1)", Sentences.three().of(1, 1), 3);
    }
}
