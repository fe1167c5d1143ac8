import java.util.function.ToLongFunction;

/** The bounds that the document's terms tell, each sentence with a test of its own. */
public final class TermsBoundsTest {
    private static final int NONE = Sentences.NONE;
    private static final int LEAST = Sentences.LEAST;
    private static final int MOST = Sentences.MOST;
    private static final String SIX = "run 1;run 1;run 1;run 1;run 1;run 1;";
    private static final Sentences S = new Sentences();

    public static void main(String[] args) {
        calls();
        numbersOfRunners();
        speedsAndStarts();
        textsThatStand();
        words();
        numbers();
        blanks();
        gaps();
        faults();
        seventh();
        tooEarly();
        ring();
        places();
        ways();
        lonely();
        best();
        stretches();
        fractions();
        back();
        marks();
        acts();
        nothingHappens();
        noneAheadOfTheOther();
        times();
        S.finish(0, 0);
    }

    private static void calls() {
        S.says(0, "An object is used for at most 512 calls after it has been made");
        RingRunners x = new RingRunners();
        x.run(1, 0);
        for (int n = 2; n < 512; n++) {
            x.turn(1);
        }
        S.due("of(0, 1), the 512th call", x.of(0, 1), 510 % 12);
        x = new RingRunners();
        for (int n = 0; n < 255; n++) {
            Checks.feed(x, "                    ");
            x.back(20);
        }
        Checks.feed(x, "run 40 from 11;     ");
        S.due("text(), the 512th call", x.text(), 1);
        x = Checks.with(0, 0, 40, 1, 39, 2, 1, 3, 2, 4);
        for (int n = 5; n < 511; n++) {
            x.speed(0, 1 + n % 40);
        }
        S.due("undo(), the 512th call", x.undo(), 11);

        S.says(0, "public static final int NONE = -1;");
        S.due("NONE", RingRunners.NONE, -1);
    }

    private static void numbersOfRunners() {
        S.says(0, "RUNNERS 0, 1 .. (at most 6)");
        RingRunners x = new RingRunners();
        for (int i = 0; i < 6; i++) {
            S.due("run of number " + i, x.run(i, i), i);
        }
        S.due("run of a seventh", x.run(6, 6), NONE);
        S.dueRunners("behind a seventh", x, "0:0 1:1 2:2 3:3 4:4 5:5");
        S.due("text of six", Checks.read(new RingRunners(), SIX), 6);
        S.due("text of seven", Checks.read(new RingRunners(), SIX + "run 1;"), -4 - 36);

        S.says(0, "K: how many there are");
        S.due("count(0) of none", new RingRunners().count(0), 0);
        S.due("count(0) of one", Checks.with(3, 3).count(0), 1);
        S.due("count(0) of six", x.count(0), 6);
        S.due("drop of one of six", x.drop(5), true);
        S.due("count(0) of five", x.count(0), 5);
    }

    private static void speedsAndStarts() {
        S.says(0, "SPEED (0 .. 40)");
        S.due("run(0, 5)", Checks.with(1, 1).run(0, 5), 1);
        S.due("run(40, 5)", Checks.with(1, 1).run(40, 5), 1);
        S.due("speed(0, 0)", Checks.with(1, 1).speed(0, 0), 1);
        S.due("speed(0, 40)", Checks.with(1, 1).speed(0, 40), 1);
        S.due("pace(39)", Checks.with(1, 1).pace(39), 1);
        S.due("pace(-1)", Checks.with(1, 1).pace(-1), 1);
        S.due("were(0, 0, 0, 0)", Checks.with(1, 1).were(0, 0, 0, 0), 1);
        S.due("were(0, 0, 40, 0)", Checks.with(1, 1).were(0, 0, 40, 0), 1);
        stands("run 0;run 40;", "0:0 40:0");
        falls("run 41;", 4);
        S.due("pace(40)", Checks.with(1, 1).pace(40), NONE);
        S.due("pace(-2)", Checks.with(1, 1).pace(-2), NONE);
        for (int v : new int[] {-1, 41, LEAST, MOST}) {
            S.due("run(" + v + ", 5)", Checks.with(1, 1).run(v, 5), NONE);
            S.due("speed(0, " + v + ")", Checks.with(1, 1).speed(0, v), NONE);
            S.due("were(0, 0, " + v + ", 0)", Checks.with(1, 1).were(0, 0, v, 0), NONE);
        }

        S.says(0, "START (0 .. 11; 0 without)");
        S.due("run(5, 0)", Checks.with(1, 1).run(5, 0), 1);
        S.due("run(5, 11)", Checks.with(1, 1).run(5, 11), 1);
        S.due("start(0, 0)", Checks.with(1, 1).start(0, 0), 1);
        S.due("start(0, 11)", Checks.with(1, 1).start(0, 11), 1);
        stands("run 5 from 0;run 5 from 11;run 5;", "5:0 5:11 5:0");
        // Nothing is left of the start ahead.
        stands("run 5 from 7;run 6;run 7 from 8;run 8;", "5:7 6:0 7:8 8:0");
        falls("run 5 from 12;", 11);
        for (int s : new int[] {-1, 12, LEAST, MOST}) {
            S.due("run(5, " + s + ")", Checks.with(1, 1).run(5, s), NONE);
            S.due("start(0, " + s + ")", Checks.with(1, 1).start(0, s), NONE);
        }
    }

    private static void stands(String text, String runners) {
        RingRunners x = Checks.with(9, 9);
        int size = runners.isEmpty() ? 0 : runners.split(" ").length;
        S.due("text() of " + told(text), Checks.read(x, text), size);
        S.dueRunners("behind " + told(text), x, runners);
    }

    private static void falls(String text, int fault) {
        RingRunners x = Checks.with(9, 9);
        S.due("text() of " + told(text), Checks.read(x, text), -4 - fault);
        S.dueRunners("behind " + told(text), x, "9:9");
    }

    private static String told(String text) {
        return text.replace("\n", "\\n");
    }

    private static void textsThatStand() {
        S.says(0, "{ run N [from N] ; }: SPEED, START");
        stands("", "");
        stands("run 5;", "5:0");
        stands("run 5 from 3;", "5:3");
        stands("run 5;run 6 from 4;run 7;", "5:0 6:4 7:0");
        stands("run 1 from 2;run 3 from 4;run 5 from 6;run 7 from 8;run 9 from 10;run 11;",
            "1:2 3:4 5:6 7:8 9:10 11:0");
        falls("from 3;", 0);
        falls("5;", 0);
        falls(";", 0);
        falls("run;", 3);
        falls("run from 3;", 4);
        falls("run 5 from;", 10);
        falls("run 5;;", 6);
        falls("run 5 from 3 from 4;", 13);
        falls("run 5;from 3;", 6);
        falls("run 5 run 6;", 6);
        falls("run 5,from 3;", 5);
    }

    private static void words() {
        S.says(0, "WORDS are small letters as far as they go on");
        falls("runa 5;", 0);
        falls("runz 5;", 0);
        falls("runrun 5;", 0);
        falls("r un 5;", 0);
        falls("ru n 5;", 0);
        falls("rum 5;", 0);
        falls("Run 5;", 0);
        falls("ruN 5;", 0);
        falls("run 5 froma 3;", 6);
        falls("run 5 fromz 3;", 6);
        falls("run 5 fromrun 3;", 6);
        falls("run 5 fro m 3;", 6);
        falls("run 5 froM 3;", 6);
        // The signs beside a and z are no letters, capital ones are none: there the word is at its end.
        falls("run` 5;", 3);
        falls("run{ 5;", 3);
        falls("runA 5;", 3);
        falls("runZ 5;", 3);
        falls("run 5 from` 3;", 10);
        falls("run 5 from{ 3;", 10);
    }

    private static void numbers() {
        S.says(0, "N digits as far as they go on (one or two, 0s ahead, too)");
        stands("run 0;run 9;run 10;run 40;", "0:0 9:0 10:0 40:0");
        stands("run 00;run 09;run 01 from 01;run 2 from 00;", "0:0 9:0 1:1 2:0");
        stands("run 1 from 0;run 1 from 9;run 1 from 09;run 1 from 10;run 1 from 11;", "1:0 1:9 1:9 1:10 1:11");
        falls("run 4 0;", 6);
        falls("run 1 from 1 0;", 13);
        // The signs beside 0 and 9 are no digits.
        falls("run /;", 4);
        falls("run :;", 4);
        falls("run 4/;", 5);
        falls("run 4:;", 5);
        falls("run -1;", 4);
        falls("run +1;", 4);
        falls("run 1.0;", 5);
    }

    private static void blanks() {
        S.says(0, "Blanks (32), line ends (10) where one likes");
        stands(" ", "");
        stands("\n", "");
        stands(" run 5 from 3 ; run 6 ; ", "5:3 6:0");
        stands("\nrun\n5\nfrom\n3\n;\nrun\n6\n;\n", "5:3 6:0");
        stands("\n\n  run \n 5  from\n\n3 \n;  \n", "5:3");
        stands("run 5;run 6 from 3;run 7;", "5:0 6:3 7:0");
        // A whole tape of them, or all but one runner.
        stands(" ".repeat(100) + "\n".repeat(100), "");
        stands("run" + " ".repeat(95) + "5" + "\n".repeat(100) + ";", "5:0");
        for (int sign : new int[] {0, 1, 9, 11, 12, 13, 31, 33, 95, 127, 128, 160, 255}) {
            falls((char) sign + "run 5;", 0);
            falls("run" + (char) sign + "5;", 3);
            falls("run 5" + (char) sign + ";", 5);
            falls("run 5;" + (char) sign, 6);
        }
    }

    private static void gaps() {
        S.says(0, "one at least between two WORDS, two N, a WORD and N (else the second one can't stand there)");
        falls("run5;", 3);
        falls("run05;", 3);
        falls("run 5from 3;", 5);
        falls("run 5from3;", 5);
        falls("run 5 from3;", 10);
        falls("run 5run 6;", 5);
        falls("run 5 from 3run 6;", 12);
        falls("runfrom 5;", 0);
        falls("run 5 6;", 6);
        falls("run run 5;", 4);
        stands("run 5 from 3;", "5:3");
        stands("run\n5\nfrom\n3;", "5:3");
        // None has to be beside a semicolon.
        stands("run 5;run 6;", "5:0 6:0");
        stands("run 5 from 3;run 6;", "5:3 6:0");
    }

    private static void faults() {
        S.says(0, "FAULT: the first byte that can't stand there");
        falls("?", 0);
        falls("run 5;?", 6);
        falls("run 5;??run 99;", 6);
        falls("run 41;run 42;", 4);
        falls("run 5 from 12;run 41;", 11);
        falls("run 5;run 6;run 7 6;x", 18);
        falls("run x 41;", 4);
        falls(" ".repeat(199) + "?", 199);

        S.says(0, "of a WORD, N its first one");
        falls("runs 5;", 0);
        falls("   gun 5;", 3);
        falls("run 5 frox 3;", 6);
        falls("run 40 fromm 3;", 7);
        falls("run 5 33;", 6);

        S.says(0, "also an N out of bounds");
        falls("run 41;", 4);
        falls("run 50;", 4);
        falls("run 99;", 4);
        falls("run 41", 4);
        falls("run 5 from 12;", 11);
        falls("run 5 from 20;", 11);
        falls("run 5 from 99;", 11);
        falls("run 5 from 12", 11);
        stands("run 40 from 11;", "40:11");

        S.says(0, "of three digits or more");
        falls("run 000;", 4);
        falls("run 005;", 4);
        falls("run 040;", 4);
        falls("run 100;", 4);
        falls("run 400;", 4);
        falls("run 0005;", 4);
        falls("run 005", 4);
        falls("run 5 from 000;", 11);
        falls("run 5 from 003;", 11);
        falls("run 5 from 011;", 11);
        falls("run 5 from 110;", 11);
        // 5 more than what an int and what a long goes round by.
        falls("run 4294967301;", 4);
        falls("run 18446744073709551621;", 4);
        falls("run " + "0".repeat(195) + ";", 4);
    }

    private static void seventh() {
        S.says(0, "a seventh run at its WORD");
        stands(SIX, "1:0 1:0 1:0 1:0 1:0 1:0");
        stands(SIX + " \n ", "1:0 1:0 1:0 1:0 1:0 1:0");
        falls(SIX + "run 1;", 36);
        falls(SIX + " \n run 1;", 39);
        falls(SIX + "run", 36);
        falls(SIX + "run ", 36);
        falls(SIX + "run 99;", 36);
        falls(SIX + "run;", 36);
        falls(SIX + "run 1;run 1;", 36);
        falls(SIX + ";", 36);
    }

    private static void tooEarly() {
        S.says(0, "the TEXT's length, if it ends too early");
        falls("run", 3);
        falls("run ", 4);
        falls("run\n\n", 5);
        falls("run 5", 5);
        falls("run 40", 6);
        falls("run 40 ", 7);
        falls("run 5 from", 10);
        falls("run 5 from ", 11);
        falls("run 5 from 3", 12);
        falls("run 5 from 11", 13);
        falls("run 5 from 3 \n", 14);
        falls("run 5;run", 9);
        falls("run 5;" + " ".repeat(191) + "run", 200);
        falls("run 5;" + " ".repeat(190) + "run ", 200);
        // An empty one, and one behind a semicolon, ends well.
        stands("", "");
        stands("run 5;", "5:0");
    }

    private static void ring() {
        S.says(0, "The RING is 1 long");
        S.dueFraction("hole of one", lower -> Checks.with(7, 5).hole(1, 7, lower), 1, 1);
        S.dueFraction("between of one", lower -> Checks.with(7, 5).between(0, 1, 7, lower), 1, 1);
        S.dueFraction("between", lower -> Checks.with(0, 0, 0, 11).between(0, 0, 1, lower), 11, 12);
        S.dueFraction("between", lower -> Checks.with(0, 0, 0, 11).between(1, 0, 1, lower), 1, 12);
    }

    private static void places() {
        S.says(0, "less the whole part: its PLACE, 0 or more, below 1");
        RingRunners x = Checks.with(1, 0, 1, 11, 40, 11);
        S.dueFraction("place at 0", lower -> x.place(0, 0, 1, lower), 0, 1);
        S.dueFraction("place at 998 by 999", lower -> x.place(0, 998, 999, lower), 998, 999);
        S.dueFraction("place at 1", lower -> x.place(0, 1, 1, lower), 0, 1);
        S.dueFraction("place at 9999", lower -> x.place(0, 9999, 1, lower), 0, 1);
        S.dueFraction("place of 11 at 0", lower -> x.place(1, 0, 1, lower), 11, 12);
        S.dueFraction("place of 11 at 83 by 999", lower -> x.place(1, 83, 999, lower), 3995, 3996);
        S.dueFraction("place of 11 at 1 by 12", lower -> x.place(1, 1, 12, lower), 0, 1);
        S.dueFraction("place of 11 at 84 by 999", lower -> x.place(1, 84, 999, lower), 1, 1332);
        S.dueFraction("place of 40, 11 at 9999", lower -> x.place(2, 9999, 1, lower), 11, 12);
        S.dueFraction("place of 40, 11 at 9999 by 999", lower -> x.place(2, 9999, 999, lower), 41, 148);
    }

    private static void ways() {
        S.says(0, "the shorter way between their PLACES (a half at most)");
        RingRunners x = Checks.with(0, 0, 0, 5, 0, 6, 0, 7, 0, 11, 1, 0);
        S.dueFraction("apart by 5", lower -> x.apart(0, 1, 0, 1, lower), 5, 12);
        S.dueFraction("apart by 6", lower -> x.apart(0, 2, 0, 1, lower), 1, 2);
        S.dueFraction("apart by 7", lower -> x.apart(0, 3, 0, 1, lower), 5, 12);
        S.dueFraction("apart by 11", lower -> x.apart(0, 4, 0, 1, lower), 1, 12);
        S.dueFraction("apart by 11, back", lower -> x.apart(4, 0, 0, 1, lower), 1, 12);
        S.dueFraction("apart by 0", lower -> x.apart(0, 5, 0, 1, lower), 0, 1);
        S.dueFraction("apart at 499 by 999", lower -> x.apart(0, 5, 499, 999, lower), 499, 999);
        S.dueFraction("apart at 500 by 999", lower -> x.apart(0, 5, 500, 999, lower), 499, 999);
        S.dueFraction("apart at 499 by 998", lower -> x.apart(5, 0, 499, 998, lower), 1, 2);

        S.says(0, "the least APART of it and any other one (one half, if K is 1)");
        S.dueFraction("nearest of one", lower -> Checks.with(7, 7).nearest(0, 5, 3, lower), 1, 2);
        S.dueFraction("best of one", lower -> Checks.with(7, 7).best(0, lower ? 1 : 0), 1, 2);
        S.dueFraction("grid of one", lower -> Checks.with(7, 7).grid(0, 5, lower ? 1 : 0), 1, 2);
        S.dueFraction("hoursBy 1 by 2 of one", lower -> Checks.with(7, 7).hoursBy(0, 1, 2, lower), 1, 1);
        S.dueFraction("hoursBy 7 by 12 of one", lower -> Checks.with(7, 7).hoursBy(0, 7, 12, lower), 0, 1);
        S.dueFraction("nearest of two like ones", lower -> Checks.with(7, 7, 7, 7).nearest(0, 5, 3, lower), 0, 1);
        S.dueFraction("nearest of the last of six", lower -> x.nearest(5, 1, 24, lower), 1, 24);
        S.dueFraction("nearest of the first of six", lower -> x.nearest(0, 1, 24, lower), 1, 24);
    }

    private static void lonely() {
        S.says(0, "It is LONELY, if that is 1 by K or more (K 1: always)");
        S.due("lonely of one", Checks.with(7, 5).lonely(0, 1), 1);
        S.due("lonely of one", Checks.with(7, 5).lonely(9999, 999), 1);
        RingRunners x = Checks.with(0, 0, 1, 0);
        S.due("lonely of two at 499 by 999", x.lonely(499, 999), 0);
        S.due("lonely of two at 1 by 2", x.lonely(499, 998), 3);
        S.due("lonely of two at 500 by 999", x.lonely(500, 999), 0);
        x = Checks.with(0, 0, 1, 0, 2, 0);
        S.due("lonely of three at 332 by 997", x.lonely(332, 997), 0);
        S.due("lonely of three at 1 by 3", x.lonely(333, 999), 7);
        S.due("lonely of three at 333 by 998", x.lonely(333, 998), 2);
        S.due("lonely of four", Checks.with(0, 0, 0, 3, 0, 6, 0, 9).lonely(0, 1), 15);
        S.due("lonely of four", Checks.with(0, 0, 0, 3, 0, 6, 0, 8).lonely(0, 1), 3);
        // 1 by 5 lies between 2 and 3 twelfths.
        S.due("lonely of five", Checks.with(0, 0, 0, 3, 0, 6, 0, 9, 0, 0).lonely(0, 1), 14);
        S.due("lonely of five", Checks.with(0, 0, 0, 2, 0, 5, 0, 7, 0, 10).lonely(0, 1), 0);
        S.due("lonely of six", Checks.with(0, 0, 0, 2, 0, 4, 0, 6, 0, 8, 0, 10).lonely(0, 1), 63);
        S.due("lonely of six", Checks.with(0, 0, 0, 2, 0, 4, 0, 6, 0, 8, 0, 11).lonely(0, 1), 30);
    }

    private static void best() {
        S.says(0, "the greatest NEAREST of all TIMES from 0 on (any fractions)");
        RingRunners x = Checks.with(0, 0, 8, 0, 7, 0, 1, 0);
        S.dueFraction("best", lower -> x.best(2, lower ? 1 : 0), 4, 13);
        S.dueFraction("best of like ones", lower -> Checks.with(9, 1, 9, 1).best(0, lower ? 1 : 0), 0, 1);
        S.dueFraction("best of two", lower -> Checks.with(0, 0, 40, 0).best(0, lower ? 1 : 0), 1, 2);

        S.says(0, "FIRST the first of these TIMES");
        S.dueFraction("first of one", lower -> Checks.with(7, 7).best(0, lower ? 3 : 2), 0, 1);
        S.dueFraction("first at the time 0", lower -> Checks.with(5, 0, 6, 6).best(0, lower ? 3 : 2), 0, 1);
        S.dueFraction("first, still", lower -> Checks.with(5, 0, 5, 5).best(0, lower ? 3 : 2), 0, 1);
        S.dueFraction("first of three", lower -> Checks.with(0, 0, 3, 0).best(0, lower ? 3 : 2), 1, 6);
        // It is as high as 1 by 4 from 1 by 4 to 3 by 4.
        S.dueFraction("first of a while", lower -> Checks.with(0, 0, 0, 3, 1, 0).best(0, lower ? 3 : 2), 1, 4);
        S.dueFraction("first of a while", lower -> Checks.with(0, 0, 1, 0, 0, 3).best(0, lower ? 3 : 2), 1, 4);
        S.dueFraction("first of a while", lower -> Checks.with(0, 0, 1, 0, 0, 9).best(0, lower ? 3 : 2), 1, 4);
        // The faster one is 1 by 12 behind one half at the time 0, or 1 by 12 beyond it.
        S.dueFraction("first", lower -> Checks.with(0, 0, 1, 5).best(0, lower ? 3 : 2), 1, 12);
        S.dueFraction("first", lower -> Checks.with(0, 0, 1, 7).best(0, lower ? 3 : 2), 11, 12);
    }

    private static void stretches() {
        S.says(0, "from a TIME to a TIME, of 0 .. 1, both within it");
        // Lonely over the time 1: up to 1 by 6, and from 5 by 6 on.
        RingRunners x = Checks.with(0, 0, 1, 0, 1, 6);
        S.due("stretches", x.stretches(2), 2);
        S.dueFraction("from", lower -> x.stretch(2, 0, false, lower), 0, 1);
        S.dueFraction("to", lower -> x.stretch(2, 0, true, lower), 1, 6);
        S.dueFraction("from", lower -> x.stretch(2, 1, false, lower), 5, 6);
        S.dueFraction("to", lower -> x.stretch(2, 1, true, lower), 1, 1);
        // At 0 and at 1, both.
        RingRunners y = Checks.with(0, 0, 2, 6);
        S.due("stretches", y.stretches(0), 3);
        S.dueFraction("to", lower -> y.stretch(0, 0, true, lower), 0, 1);
        S.dueFraction("from", lower -> y.stretch(0, 2, false, lower), 1, 1);

        S.says(0, "in all of which it is LONELY, as long as can be");
        RingRunners still = Checks.with(5, 0, 5, 4, 5, 8);
        S.due("stretches", still.stretches(1), 1);
        S.dueFraction("from", lower -> still.stretch(1, 0, false, lower), 0, 1);
        S.dueFraction("to", lower -> still.stretch(1, 0, true, lower), 1, 1);
        S.due("stretches of 1", Checks.with(0, 0, 1, 0, 2, 0).stretches(1), 1);

        S.says(0, "(its end may be its beginning)");
        RingRunners two = Checks.with(0, 0, 1, 0);
        S.due("stretches", two.stretches(0), 1);
        S.dueFraction("from", lower -> two.stretch(0, 0, false, lower), 1, 2);
        S.dueFraction("to", lower -> two.stretch(0, 0, true, lower), 1, 2);

        S.says(0, "HOURS: how long all its STRETCHES are together");
        S.dueFraction("hours", lower -> x.hours(2, lower), 1, 3);
        S.dueFraction("hours", lower -> two.hours(0, lower), 0, 1);
        S.dueFraction("hours", lower -> still.hours(1, lower), 1, 1);
    }

    private static void fractions() {
        S.says(0, "A fraction is told in lowest terms (0 as 0 by 1): the upper part (lower false), "
            + "the lower one (lower true).");
        RingRunners x = Checks.with(0, 0, 1, 0, 1, 6);
        S.dueFraction("place", lower -> x.place(1, 500, 750, lower), 2, 3);
        S.dueFraction("place", lower -> x.place(0, 500, 750, lower), 0, 1);
        S.dueFraction("apart", lower -> x.apart(0, 1, 999, 999, lower), 0, 1);
        S.dueFraction("nearest", lower -> x.nearest(1, 2, 8, lower), 1, 4);
        S.dueFraction("nearest", lower -> x.nearest(1, 3, 3, lower), 0, 1);
        S.dueFraction("hole", lower -> x.hole(2, 8, lower), 1, 2);
        S.dueFraction("closest", lower -> x.closest(9, 9, lower ? 2 : 1), 0, 1);
        S.dueFraction("between", lower -> x.between(0, 9, 9, lower), 0, 1);
        S.dueFraction("best", lower -> Checks.with(3, 3, 3, 3).best(0, lower ? 1 : 0), 0, 1);
        S.dueFraction("first", lower -> x.best(2, lower ? 3 : 2), 0, 1);
        S.dueFraction("from", lower -> x.stretch(2, 0, false, lower), 0, 1);
        S.dueFraction("to", lower -> x.stretch(2, 1, true, lower), 1, 1);
        S.dueFraction("hours", lower -> x.hours(0, lower), 0, 1);
        S.dueFraction("next", lower -> x.next(2, 0, 999, lower), 0, 1);
        S.dueFraction("next", lower -> x.next(2, 999, 999, lower), 1, 1);
        S.dueFraction("hoursBy", lower -> x.hoursBy(0, 3, 4, lower), 0, 1);
        S.dueFraction("both", lower -> x.both(1, 2, lower), 0, 1);
        S.dueFraction("someone", lower -> Checks.with(3, 3, 3, 3).someone(lower), 0, 1);
        S.dueFraction("meetsNext", lower -> x.meetsNext(0, 1, 0, 999, lower), 0, 1);
        S.dueFraction("meetsNext", lower -> Checks.with(3, 3, 3, 3).meetsNext(0, 1, 6, 9, lower), 2, 3);
        S.dueFraction("meeting", lower -> x.meeting(0, 1, 0, lower), 0, 1);
        S.dueFraction("period", lower -> Checks.with(6, 1, 0, 1, 4, 1).period(lower), 1, 2);
        S.dueFraction("grid", lower -> x.grid(0, 1, lower ? 1 : 0), 0, 1);
    }

    private static void back() {
        S.says(0, "BACK: the least TIME above 0 at which each RUNNER is where it was at TIME 0");
        S.dueFraction("period", lower -> Checks.with(40, 5).period(lower), 1, 40);
        S.dueFraction("period", lower -> Checks.with(40, 5, 30, 0).period(lower), 1, 10);
        S.dueFraction("period", lower -> Checks.with(0, 5, 12, 0).period(lower), 1, 12);
        S.dueFraction("period", lower -> Checks.with(1, 5, 0, 0).period(lower), 1, 1);
        // They are like one another, but not back.
        S.dueFraction("period", lower -> Checks.with(3, 0, 3, 6).period(lower), 1, 3);
    }

    private static void marks() {
        S.says(0, "Three MARKS 0 .. 2, each empty or a keeping of all RUNNERS; text() empties them.");
        RingRunners x = Checks.with(1, 1);
        S.due("keep(0)", x.keep(0), 1);
        x.run(2, 2);
        S.due("keep(1)", x.keep(1), 2);
        x.run(3, 3);
        S.due("keep(2)", x.keep(2), 3);
        S.due("keep(3)", x.keep(3), NONE);
        S.due("keep(-1)", x.keep(-1), NONE);
        S.due("take(0)", x.take(0), 1);
        S.dueRunners("mark 0", x, "1:1");
        S.due("take(1)", x.take(1), 2);
        S.dueRunners("mark 1", x, "1:1 2:2");
        S.due("take(2)", x.take(2), 3);
        S.dueRunners("mark 2", x, "1:1 2:2 3:3");
        // A fault leaves them, the empty text does not.
        S.due("text() of a fault", Checks.read(x, "run"), -4 - 3);
        for (int mark = 0; mark < 3; mark++) {
            S.due("count of mark " + mark, x.count(7 + mark), mark + 1);
        }
        S.due("text() of nothing", x.text(), 0);
        for (int mark = 0; mark < 3; mark++) {
            S.due("count of mark " + mark, x.count(7 + mark), 0);
            S.due("take(" + mark + ")", x.take(mark), NONE);
        }
    }

    private static void acts() {
        S.says(0, "ACTS, of which the latest 12 can be undone (text() forgets them).");
        RingRunners x = Checks.with(0, 0);
        for (int n = 1; n < 12; n++) {
            x.speed(0, n);
        }
        S.due("count(3) of twelve acts", x.count(3), 12);
        x.speed(0, 20);
        S.due("count(3) of thirteen acts", x.count(3), 12);
        for (int n = 0; n < 12; n++) {
            S.due("undo()", x.undo(), 11 - n);
        }
        S.dueRunners("behind twelve undo()", x, "0:0");
        S.due("a thirteenth undo()", x.undo(), NONE);
        x.speed(0, 9);
        S.due("text() of a fault", Checks.read(x, "run"), -4 - 3);
        S.due("count(3) behind a fault", x.count(3), 1);
        S.due("text() of nothing", x.text(), 0);
        S.due("count(3)", x.count(3), 0);
        S.due("undo()", x.undo(), NONE);
        S.dueRunners("behind text()", x, "");

        S.says(0, "III. ACTS");
        // Each act counts one.
        x = Checks.with(5, 1, 30, 2);
        x.keep(0);
        x.drop(0);
        x.take(0);
        x.speed(0, 6);
        x.start(0, 7);
        x.pace(1);
        x.onward(1);
        x.turn(1);
        x.mirror();
        x.gate();
        S.due("count(3)", x.count(3), 11);
        x.swap(0, 1);
        S.due("count(3)", x.count(3), 12);
        S.due("undo()", x.undo(), 11);
    }

    private static void nothingHappens() {
        S.says(0, "WERE: things are as they are but for what is told; nothing happens.");
        int[] runners = {0, 0, 8, 1, 7, 2, 1, 3};
        asked("were(0, 1, 40, 0)", runners, x -> x.were(0, 1, 40, 0));
        asked("were(2, 2, 0, 3)", runners, x -> x.were(2, 2, 0, 3));
        asked("kindest(0, 1)", runners, x -> x.kindest(0, 1));
        asked("kindestStart(1, 0)", runners, x -> x.kindestStart(1, 0));
        asked("harsh(3, 2)", runners, x -> x.harsh(3, 2));
        asked("without(3, 0, 1)", runners, x -> x.without(3, 0, 1));
        asked("loneliest()", runners, x -> x.loneliest());
        // What was asked for is not left behind in what is asked next.
        RingRunners x = Checks.with(0, 0, 1, 0, 2, 0);
        x.were(0, 2, 3, 0);
        x.without(0, 1, 0);
        S.dueFraction("best", lower -> x.best(0, lower ? 1 : 0), 1, 3);
        x.kindest(0, 2);
        S.due("gate() behind kindest()", x.gate(), NONE);
        x.kindestStart(0, 2);
        S.due("onward(12) behind kindestStart()", x.onward(12), NONE);
    }

    private static void asked(String call, int[] runners, ToLongFunction<RingRunners> asked) {
        long answer = asked.applyAsLong(Checks.with(runners));
        S.dueTold(call, answer);
        S.dueWithout(call, () -> Sentences.laden(runners), asked, answer);
    }

    private static void noneAheadOfTheOther() {
        S.says(0, "Where NONE and -2 could both be told, it is NONE.");
        RingRunners like = Checks.with(3, 3, 3, 3);
        RingRunners apart = Checks.with(3, 3, 3, 4);
        S.due("passed, always, at no time", like.passed(0, 1, 5, 0), NONE);
        S.due("passed, one with itself", like.passed(1, 1, 5, 1), NONE);
        S.due("meetsNext, one with itself", like.meetsNext(0, 0, 5, 1, false), NONE);
        S.due("meetsNext, never, at no time", apart.meetsNext(0, 1, 10000, 1, true), NONE);
        S.due("meets, one with itself", like.meets(0, 0), NONE);
        S.due("meeting, one with itself", like.meeting(0, 0, 0, true), NONE);
        S.due("meeting, always, below 0", like.meeting(0, 1, -1, false), NONE);
        S.due("meeting, never, below 0", apart.meeting(0, 1, LEAST, false), NONE);
        S.due("meeting of none such, far on", apart.meeting(0, 2, MOST, false), NONE);
        S.due("next, never, at no time", like.next(0, 5, 1000, false), NONE);
        S.due("next of none such", like.next(2, 5, 1, false), NONE);
        S.due("stretch of none, below 0", like.stretch(0, -1, false, false), NONE);
        S.due("stretch of none such, far on", like.stretch(2, MOST, false, false), NONE);
        S.due("leastGrid of none such", like.leastGrid(2), NONE);
        S.due("gather of none", new RingRunners().gather(), NONE);
        S.due("period of none", new RingRunners().period(true), NONE);
        S.due("spell of none, below NONE", new RingRunners().spell(-2), NONE);
        S.due("report of none such, far on", like.report(2, MOST), NONE);
        S.due("report, below NONE", like.report(0, -2), NONE);
        S.due("tells at no time, far on", like.tells(1, 0, MOST), NONE);
        S.due("tells, below NONE", like.tells(1, 1, -2), NONE);
    }

    private static void times() {
        S.says(0, "At a TIME (p by q: p 0 .. 9999, q 1 .. 999)");
        everyTime();
        S.says(0, "A TIME out of bounds is refused as RUNNERS that there are not.");
        everyTime();
        RingRunners x = Checks.with(3, 3);
        S.due("place of none such at no time", x.place(1, 5, 0, false), NONE);
        S.due("place of none such", x.place(1, 5, 1, false), NONE);
        S.due("place at no time", x.place(0, 5, 0, false), NONE);
    }

    private static void everyTime() {
        S.noSuchTime("place", (x, p, q) -> x.place(1, p, q, true));
        S.noSuchTime("apart", (x, p, q) -> x.apart(0, 1, p, q, true));
        S.noSuchTime("nearest", (x, p, q) -> x.nearest(1, p, q, true));
        S.noSuchTime("lonely", (x, p, q) -> x.lonely(p, q));
        S.noSuchTime("hole", (x, p, q) -> x.hole(p, q, true));
        S.noSuchTime("alone", (x, p, q) -> x.alone(p, q));
        S.noSuchTime("crowd", (x, p, q) -> x.crowd(p, q));
        S.noSuchTime("ranked", (x, p, q) -> x.ranked(p, q, 1));
        S.noSuchTime("laps", (x, p, q) -> x.laps(1, p, q));
        S.noSuchTime("closest", (x, p, q) -> x.closest(p, q, 0));
        S.noSuchTime("between", (x, p, q) -> x.between(1, p, q, true));
        S.noSuchTime("passed", (x, p, q) -> x.passed(0, 1, p, q));
        S.noSuchTime("next", (x, p, q) -> x.next(1, p, q, true));
        S.noSuchTime("meetsNext", (x, p, q) -> x.meetsNext(0, 1, p, q, true));
        S.noSuchTime("tells", (x, p, q) -> x.tells(p, q, 0));
    }
}
