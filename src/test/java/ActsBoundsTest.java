/** The bounds that promises 1 to 17 tell, each sentence with a test of its own. */
public final class ActsBoundsTest {
    private static final int NONE = Sentences.NONE;
    private static final int LEAST = Sentences.LEAST;
    private static final int MOST = Sentences.MOST;
    private static final String BLANKS = " ".repeat(20);
    private static final Sentences S = new Sentences();

    public static void main(String[] args) {
        newObject();
        feed();
        back();
        text();
        run();
        drop();
        speed();
        start();
        pace();
        onward();
        turn();
        gate();
        mirror();
        keep();
        take();
        swap();
        undo();
        S.finish(1, 17);
    }

    private static void newObject() {
        S.says(1, "No RUNNERS.");
        for (int what = 0; what <= 9; what++) {
            S.due("count(" + what + ")", new RingRunners().count(what), 0);
        }
        S.due("of(0, 0)", new RingRunners().of(0, 0), NONE);
        S.due("spell(NONE)", new RingRunners().spell(NONE), 0);
        RingRunners other = Sentences.laden(5, 1, 30, 2);
        S.dueRunners("beside another object", new RingRunners(), "");
        S.due("count(8) beside another object", new RingRunners().count(8), 0);
        S.dueRunners("another object", other, "5:1 30:2");
    }

    // So many bytes: a runner ahead, blanks behind.
    private static RingRunners tapeOf(int bytes) {
        RingRunners x = Checks.with(5, 1);
        Checks.feed(x, "run 30 from 2;      ");
        while (x.count(4) < bytes) {
            Checks.feed(x, BLANKS);
        }
        x.back(x.count(4) - bytes);
        return x;
    }

    private static void feed() {
        S.says(2, "Twenty bytes, the highest of a first, come behind the tape: how many it has.");
        RingRunners x = Checks.with(9, 9);
        S.due("feed", x.feed(0x72756E20, 0x34302066, 0x726F6D20, 0x31313B72, 0x756E2035), 20);
        S.due("feed", x.feed(0x3B202020, 0x20202020, 0x20202020, 0x20202020, 0x0A0A0A0A), 40);
        S.due("text()", x.text(), 2);
        S.dueRunners("told by words", x, "40:11 5:0");
        // The last byte of e is the last one of the tape, a highest bit no sign of its own.
        S.due("feed", x.feed(0x20202020, 0x20202020, 0x20202020, 0x20202020, 0x2020203B), 20);
        S.due("text()", x.text(), -4 - 19);
        S.due("feed", x.feed(0x202020F2, 0, 0, 0, 0), 20);
        S.due("text()", x.text(), -4 - 3);
        S.due("feed", x.feed(-1, -1, -1, -1, -1), 20);
        S.due("feed", x.feed(LEAST, MOST, LEAST, MOST, 0), 40);
        S.due("text()", x.text(), -4);

        S.says(2, "NONE, and nothing comes, if it would have more than 200");
        x = tapeOf(180);
        S.due("feed to 200", Checks.feed(x, BLANKS), 200);
        S.due("text() of 200", x.text(), 1);
        S.due("feed behind text()", Checks.feed(x, BLANKS), 20);
        for (int bytes : new int[] {181, 190, 199, 200}) {
            S.dueWithout("feed to " + (bytes + 20), () -> tapeOf(bytes), y -> Checks.feed(y, "????????????????????"),
                NONE);
        }
        x = tapeOf(181);
        S.due("feed to 201", Checks.feed(x, BLANKS), NONE);
        S.due("back(1)", x.back(1), 180);
        S.due("feed to 200", Checks.feed(x, BLANKS), 200);
    }

    private static void back() {
        S.says(3, "NONE, and nothing goes, if it has not so many, or n is below 0");
        S.due("back(20) of 20", tapeOf(20).back(20), 0);
        S.due("back(19) of 20", tapeOf(20).back(19), 1);
        S.due("back(0) of 20", tapeOf(20).back(0), 20);
        S.due("back(200) of 200", tapeOf(200).back(200), 0);
        S.due("back(0) of none", new RingRunners().back(0), 0);
        S.due("back(1) of none", new RingRunners().back(1), NONE);
        S.due("back(-1) of none", new RingRunners().back(-1), NONE);
        for (int n : new int[] {21, 22, 200, MOST, -1, -20, LEAST}) {
            S.dueWithout("back(" + n + ") of 20", () -> tapeOf(20), x -> x.back(n), NONE);
        }
        S.dueWithout("back(201) of 200", () -> tapeOf(200), x -> x.back(201), NONE);
        // What has gone doesn't come back.
        RingRunners x = tapeOf(20);
        x.back(6);
        x.back(3);
        S.due("count(4)", x.count(4), 11);
        Checks.feed(x, " 7;                 ");
        S.due("text()", x.text(), 1);
        S.dueRunners("behind back()", x, "30:7");
    }

    private static void text() {
        S.says(4, "(empty then, behind a FAULT, too)");
        RingRunners x = tapeOf(20);
        S.due("text()", x.text(), 1);
        S.due("count(4)", x.count(4), 0);
        S.due("text() again", x.text(), 0);
        S.dueRunners("behind the empty text", x, "");
        Checks.feed(x, "run 5;x             ");
        S.due("text() of a fault", x.text(), -4 - 6);
        S.due("count(4)", x.count(4), 0);
        Checks.feed(x, "run 6;              ");
        S.due("text() behind a fault", x.text(), 1);
        S.dueRunners("behind a fault", x, "6:0");

        S.says(4, "is the TEXT, all anew: how many RUNNERS");
        S.due("text() of none, with six there", Checks.read(Sentences.six(), ""), 0);
        S.due("text() of blanks", Checks.read(Sentences.six(), " \n "), 0);
        x = Sentences.six();
        S.due("text() of one, with six there", Checks.read(x, "run 5;"), 1);
        S.dueRunners("anew", x, "5:0");
        S.due("run behind it", x.run(6, 6), 1);
        S.due("text() of six", Checks.read(x, "run 1;run 2;run 3;run 4;run 5;run 6;"), 6);
        S.due("run behind six", x.run(6, 6), NONE);

        S.says(4, "-4 less its FAULT, and all else stays");
        S.due("text() of a fault at 0", Checks.read(Checks.with(5, 1), ";"), -4);
        S.due("text() of a fault at 199", Checks.read(Checks.with(5, 1), " ".repeat(199) + ";"), -203);
        S.due("text() of a fault at 200", Checks.read(Checks.with(5, 1), " ".repeat(197) + "run"), -204);
        // Good runners ahead of the fault don't come either.
        S.dueWithout("text() of a fault", () -> Sentences.with(5, 1, 30, 2),
            y -> Checks.read(y, "run 7;run 8;run 9 9"), -4 - 18);
        S.dueWithout("text() of a fault, laden", () -> withoutTape(), ActsBoundsTest::faulty, -4 - 14);
    }

    private static RingRunners withoutTape() {
        RingRunners x = Sentences.laden(5, 1, 30, 2);
        x.back(20);
        return x;
    }

    private static int faulty(RingRunners x) {
        Checks.feed(x, " run 9 from 9;?     ");
        return x.text();
    }

    private static void run() {
        S.says(5, "NONE, and nothing happens: out of bounds");
        S.due("run(0, 0)", new RingRunners().run(0, 0), 0);
        S.due("run(40, 11)", new RingRunners().run(40, 11), 0);
        for (int v : new int[] {-1, 41, LEAST, MOST}) {
            S.dueWithout("run(" + v + ", 5)", () -> Sentences.laden(5, 1, 30, 2), x -> x.run(v, 5), NONE);
            S.due("run(" + v + ", 5) as the first", new RingRunners().run(v, 5), NONE);
        }
        for (int s : new int[] {-1, 12, LEAST, MOST}) {
            S.dueWithout("run(5, " + s + ")", () -> Sentences.laden(5, 1, 30, 2), x -> x.run(5, s), NONE);
        }
        S.dueWithout("run(-1, 12)", () -> Sentences.laden(5, 1, 30, 2), x -> x.run(-1, 12), NONE);

        S.says(5, "there are 6");
        S.due("run with five there", Checks.with(1, 1, 1, 1, 1, 1, 1, 1, 1, 1).run(1, 1), 5);
        S.dueWithout("run with six there", () -> Sentences.laden(1, 1, 2, 2, 3, 3, 4, 4, 5, 5, 6, 6),
            x -> x.run(1, 1), NONE);
        RingRunners x = Sentences.six();
        x.drop(3);
        S.due("run behind drop()", x.run(1, 1), 5);
        S.due("run with six there again", x.run(1, 1), NONE);
    }

    private static void drop() {
        S.says(6, "(numbers above it are one less)");
        RingRunners x = Checks.with(0, 0, 1, 1, 2, 2, 3, 3, 4, 4, 5, 5);
        S.due("drop(5)", x.drop(5), true);
        S.dueRunners("without the last", x, "0:0 1:1 2:2 3:3 4:4");
        S.due("drop(0)", x.drop(0), true);
        S.dueRunners("without the first", x, "1:1 2:2 3:3 4:4");
        S.due("drop(1)", x.drop(1), true);
        S.dueRunners("without one between", x, "1:1 3:3 4:4");

        S.says(6, "true; false: there is none such");
        S.due("drop(0) of one", Checks.with(5, 1).drop(0), true);
        S.due("drop(0) of none", new RingRunners().drop(0), false);
        S.due("drop(5) of six", Sentences.six().drop(5), true);
        S.due("drop(6) of six", Sentences.six().drop(6), false);
        for (int i : new int[] {-1, 2, 6, LEAST, MOST}) {
            S.dueWithout("drop(" + i + ") of two", () -> Sentences.laden(5, 1, 30, 2), y -> y.drop(i) ? 1 : 0, 0);
        }
        x = Checks.with(5, 1);
        x.drop(0);
        S.due("drop(0) of what has gone", x.drop(0), false);
    }

    private static void speed() {
        S.says(7, "NONE: no such one");
        for (int i : new int[] {-1, 2, 6, LEAST, MOST}) {
            S.dueWithout("speed(" + i + ", 7)", () -> Sentences.laden(5, 1, 30, 2), x -> x.speed(i, 7), NONE);
        }
        S.due("speed(0, 0) of none", new RingRunners().speed(0, 0), NONE);
        S.due("speed(0, 7) of none", new RingRunners().speed(0, 7), NONE);
        S.due("speed(1, 7)", Checks.with(5, 1, 30, 2).speed(1, 7), 30);

        S.says(7, "out of bounds");
        for (int v : new int[] {-1, 41, LEAST, MOST}) {
            S.dueWithout("speed(0, " + v + ")", () -> Sentences.laden(5, 1, 30, 2), x -> x.speed(0, v), NONE);
        }
        S.due("speed(0, 0)", Checks.with(5, 1).speed(0, 0), 5);
        S.due("speed(0, 40)", Checks.with(5, 1).speed(0, 40), 5);
        S.due("speed(0, 40) of 0", Checks.with(0, 1).speed(0, 40), 0);

        S.says(7, "it is so");
        for (int v : new int[] {0, 5, 40}) {
            S.dueWithout("speed(0, " + v + ") of " + v, () -> Sentences.laden(v, 1, 30, 2), x -> x.speed(0, v), NONE);
        }
        // The start's number is not in question.
        S.due("speed(0, 1) of 5", Checks.with(5, 1).speed(0, 1), 5);
        RingRunners x = Checks.with(5, 1, 30, 2);
        S.due("speed(1, 0)", x.speed(1, 0), 30);
        S.due("speed(1, 0) again", x.speed(1, 0), NONE);
        S.dueRunners("another speed", x, "5:1 0:2");
    }

    private static void start() {
        S.says(8, "NONE: no such one");
        for (int i : new int[] {-1, 2, 6, LEAST, MOST}) {
            S.dueWithout("start(" + i + ", 7)", () -> Sentences.laden(5, 1, 30, 2), x -> x.start(i, 7), NONE);
        }
        S.due("start(0, 0) of none", new RingRunners().start(0, 0), NONE);
        S.due("start(0, 7) of none", new RingRunners().start(0, 7), NONE);
        S.due("start(1, 7)", Checks.with(5, 1, 30, 2).start(1, 7), 2);

        S.says(8, "out of bounds");
        for (int s : new int[] {-1, 12, LEAST, MOST}) {
            S.dueWithout("start(0, " + s + ")", () -> Sentences.laden(5, 1, 30, 2), x -> x.start(0, s), NONE);
        }
        S.due("start(0, 0)", Checks.with(5, 1).start(0, 0), 1);
        S.due("start(0, 11)", Checks.with(5, 1).start(0, 11), 1);
        S.due("start(0, 11) of 0", Checks.with(5, 0).start(0, 11), 0);

        S.says(8, "it is so");
        for (int s : new int[] {0, 5, 11}) {
            S.dueWithout("start(0, " + s + ") of " + s, () -> Sentences.laden(1, s, 30, 2), x -> x.start(0, s), NONE);
        }
        S.due("start(0, 5) of 1", Checks.with(5, 1).start(0, 5), 1);
        RingRunners x = Checks.with(5, 1, 30, 2);
        S.due("start(1, 11)", x.start(1, 11), 2);
        S.due("start(1, 11) again", x.start(1, 11), NONE);
        S.dueRunners("another start", x, "5:1 30:11");
    }

    private static void pace() {
        S.says(9, "All SPEEDS are so much more, or less (below 0): how many RUNNERS");
        RingRunners x = Checks.with(5, 1, 30, 2);
        S.due("pace(1)", x.pace(1), 2);
        S.dueRunners("one more", x, "6:1 31:2");
        S.due("pace(-1)", x.pace(-1), 2);
        S.dueRunners("one less", x, "5:1 30:2");
        S.due("pace(1) of six", Checks.with(0, 0, 1, 0, 2, 0, 3, 0, 4, 0, 5, 0).pace(1), 6);

        S.says(9, "NONE, and nothing happens: 0");
        S.dueWithout("pace(0)", () -> Sentences.laden(5, 1, 30, 2), y -> y.pace(0), NONE);

        S.says(9, "none are there");
        for (int by : new int[] {0, 1, -1, 40, -40}) {
            S.dueWithout("pace(" + by + ") of none", () -> Sentences.laden(), y -> y.pace(by), NONE);
        }

        S.says(9, "one would be below 0 or above 40");
        x = Checks.with(5, 1, 30, 2);
        S.due("pace(-5)", x.pace(-5), 2);
        S.dueRunners("least", x, "0:1 25:2");
        S.due("pace(15)", x.pace(15), 2);
        S.dueRunners("greatest", x, "15:1 40:2");
        for (int by : new int[] {-6, -30, 11, 36, 41, -41, LEAST, MOST, LEAST + 40, MOST - 4}) {
            S.dueWithout("pace(" + by + ")", () -> Sentences.laden(5, 1, 30, 2), y -> y.pace(by), NONE);
            S.dueWithout("pace(" + by + "), swapped", () -> Sentences.laden(30, 2, 5, 1), y -> y.pace(by), NONE);
        }
        S.due("pace(40) of 0", Checks.with(0, 0).pace(40), 1);
        S.due("pace(41) of 0", Checks.with(0, 0).pace(41), NONE);
        S.due("pace(-1) of 0", Checks.with(0, 0).pace(-1), NONE);
        S.due("pace(-40) of 40", Checks.with(40, 0).pace(-40), 1);
        S.due("pace(-41) of 40", Checks.with(40, 0).pace(-41), NONE);
        S.due("pace(1) of 40", Checks.with(40, 0).pace(1), NONE);
        S.due("pace(1) of 0 and 40", Checks.with(0, 0, 40, 0).pace(1), NONE);
        S.due("pace(-1) of 40 and 0", Checks.with(40, 0, 0, 0).pace(-1), NONE);
    }

    private static void onward() {
        S.says(10, "All are where they are at the TIME n by 12 (n 1 .. 9999): STARTS are these PLACES in twelfths");
        RingRunners x = Checks.with(1, 0, 1, 11, 39, 11, 40, 11);
        S.due("onward(1)", x.onward(1), 4);
        S.dueRunners("at 1 by 12", x, "1:1 1:0 39:2 40:3");
        x = Checks.with(1, 0, 1, 11, 39, 11, 40, 11);
        S.due("onward(9999)", x.onward(9999), 3);
        S.dueRunners("at 9999 by 12", x, "1:3 1:2 39:8 40:11");

        S.says(10, "NONE, and nothing happens: out of bounds");
        for (int n : new int[] {0, -1, -11, 10000, 10001, LEAST, MOST}) {
            S.dueWithout("onward(" + n + ")", () -> Sentences.laden(5, 1, 31, 2), y -> y.onward(n), NONE);
        }

        S.says(10, "none would");
        S.dueWithout("onward(12)", () -> Sentences.laden(5, 1, 31, 2), y -> y.onward(12), NONE);
        S.dueWithout("onward(9996)", () -> Sentences.laden(5, 1, 31, 2), y -> y.onward(9996), NONE);
        S.dueWithout("onward(5), still", () -> Sentences.laden(0, 1, 0, 2), y -> y.onward(5), NONE);
        S.dueWithout("onward(5), all the way round", () -> Sentences.laden(12, 1, 36, 2), y -> y.onward(5), NONE);
        S.dueWithout("onward(3), all the way round", () -> Sentences.laden(4, 1, 40, 2), y -> y.onward(3), NONE);
        S.dueWithout("onward(5) of none", () -> Sentences.laden(), y -> y.onward(5), NONE);
        S.due("onward(5), one alone goes on", Checks.with(12, 1, 1, 2).onward(5), 1);
    }

    private static void turn() {
        S.says(11, "All STARTS are s (1 .. 11) more");
        RingRunners x = Checks.with(3, 0, 4, 5);
        S.due("turn(1)", x.turn(1), 2);
        S.dueRunners("turned by 1", x, "3:1 4:6");
        x = Checks.with(3, 0);
        S.due("turn(11)", x.turn(11), 1);
        S.dueRunners("turned by 11", x, "3:11");

        S.says(11, "12 less from 12 on: how many RUNNERS");
        x = Checks.with(3, 10, 4, 11, 5, 0);
        S.due("turn(1)", x.turn(1), 3);
        S.dueRunners("turned by 1", x, "3:11 4:0 5:1");
        x = Checks.with(3, 0, 4, 1, 5, 2, 6, 11);
        S.due("turn(11)", x.turn(11), 4);
        S.dueRunners("turned by 11", x, "3:11 4:0 5:1 6:10");

        S.says(11, "NONE, and nothing happens: out of bounds");
        for (int s : new int[] {0, 12, 13, -1, -12, LEAST, MOST}) {
            S.dueWithout("turn(" + s + ")", () -> Sentences.laden(5, 1, 30, 2), y -> y.turn(s), NONE);
        }

        S.says(11, "none are there");
        S.dueWithout("turn(1) of none", () -> Sentences.laden(), y -> y.turn(1), NONE);
        S.dueWithout("turn(11) of none", () -> Sentences.laden(), y -> y.turn(11), NONE);
    }

    private static void gate() {
        S.says(12, "NONE, and nothing happens: none would");
        S.dueWithout("gate() of none", () -> Sentences.laden(), x -> x.gate(), NONE);
        S.dueWithout("gate(), all at 0", () -> Sentences.laden(5, 0, 30, 0), x -> x.gate(), NONE);
        RingRunners x = Checks.with(5, 0, 30, 11, 2, 0);
        S.due("gate(), one not at 0", x.gate(), 1);
        S.dueRunners("at the gate", x, "5:0 30:0 2:0");
        S.due("gate() again", x.gate(), NONE);
        S.due("gate(), all six not at 0", Checks.with(5, 1, 5, 2, 5, 3, 5, 4, 5, 5, 5, 6).gate(), 6);
    }

    private static void mirror() {
        S.says(13, "SPEEDS become the greatest SPEED less each, STARTS 12 less each (0 stays 0)");
        RingRunners x = Checks.with(0, 0, 40, 1, 7, 11, 20, 6);
        S.due("mirror()", x.mirror(), 5);
        S.dueRunners("mirrored", x, "40:0 0:11 33:1 20:6");
        x = Checks.with(3, 0, 3, 0);
        S.due("mirror() of like ones", x.mirror(), 2);
        S.dueRunners("mirrored", x, "0:0 0:0");

        S.says(13, "NONE, and nothing happens: none would");
        S.dueWithout("mirror() of none", () -> Sentences.laden(), y -> y.mirror(), NONE);
        S.dueWithout("mirror(), still at 0", () -> Sentences.laden(0, 0, 0, 0), y -> y.mirror(), NONE);
        S.dueWithout("mirror(), still at 0 and 6", () -> Sentences.laden(0, 0, 0, 6), y -> y.mirror(), NONE);
        S.due("mirror(), one start changes", Checks.with(0, 0, 0, 5).mirror(), 1);
        S.due("mirror(), one speed changes", Checks.with(4, 6, 2, 6).mirror(), 1);
        S.due("mirror() of one", Checks.with(1, 6).mirror(), 1);
    }

    private static void keep() {
        S.says(14, "(No ACT: undo() leaves MARKS.)");
        RingRunners x = Checks.with(5, 1, 30, 2);
        S.due("keep(0)", x.keep(0), 2);
        S.due("count(3) behind keep()", x.count(3), 2);
        x.drop(0);
        S.due("keep(1)", x.keep(1), 1);
        S.due("undo()", x.undo(), 2);
        S.due("undo()", x.undo(), 1);
        S.due("undo()", x.undo(), 0);
        S.due("undo()", x.undo(), NONE);
        S.due("count(7)", x.count(7), 2);
        S.due("count(8)", x.count(8), 1);
        S.due("take(1)", x.take(1), 1);
        S.dueRunners("taken", x, "30:2");
        // What is kept doesn't change with the runners, is kept anew with another keep().
        x.speed(0, 7);
        S.due("take(0)", x.take(0), 2);
        S.dueRunners("taken", x, "5:1 30:2");
        x.drop(1);
        S.due("keep(0)", x.keep(0), 1);
        x.undo();
        S.due("take(0)", x.take(0), 1);
        S.dueRunners("taken", x, "5:1");

        S.says(14, "NONE: no such MARK");
        for (int mark : new int[] {-1, 3, LEAST, MOST}) {
            S.dueWithout("keep(" + mark + ")", () -> Sentences.laden(5, 1, 30, 2), y -> y.keep(mark), NONE);
        }
        S.due("keep(0)", Checks.with(5, 1, 30, 2).keep(0), 2);
        S.due("keep(2)", Checks.with(5, 1, 30, 2).keep(2), 2);
        S.due("keep(0) of none", new RingRunners().keep(0), 0);
        S.due("keep(0) of six", Sentences.six().keep(0), 6);
    }

    private static void take() {
        S.says(15, "NONE, and nothing happens: no such MARK");
        for (int mark : new int[] {-1, 3, LEAST, MOST}) {
            S.dueWithout("take(" + mark + ")", () -> Sentences.laden(5, 1, 30, 2), x -> x.take(mark), NONE);
        }

        S.says(15, "it is empty");
        S.dueWithout("take(0)", () -> Sentences.laden(5, 1, 30, 2), x -> x.take(0), NONE);
        S.dueWithout("take(2)", () -> Sentences.laden(5, 1, 30, 2), x -> x.take(2), NONE);
        S.due("take(1) of a new one", new RingRunners().take(1), NONE);
        S.due("take(1) of a kept one", Sentences.laden(5, 1, 30, 2).take(1), 2);
        // One that keeps no runners is not empty.
        RingRunners x = new RingRunners();
        x.keep(2);
        x.run(5, 1);
        S.due("take(2) of no runners", x.take(2), 0);
        S.dueRunners("taken", x, "");
        S.due("count(3)", x.count(3), 2);
        S.due("undo()", x.undo(), 1);
        S.dueRunners("taken back", x, "5:1");
        x.text();
        S.due("take(2) behind text()", x.take(2), NONE);
    }

    private static void swap() {
        S.says(16, "false: no such ones");
        for (int i : new int[] {-1, 2, 6, LEAST, MOST}) {
            S.dueWithout("swap(" + i + ", 0)", () -> Sentences.laden(5, 1, 30, 2), x -> x.swap(i, 0) ? 1 : 0, 0);
            S.dueWithout("swap(1, " + i + ")", () -> Sentences.laden(5, 1, 30, 2), x -> x.swap(1, i) ? 1 : 0, 0);
            S.due("swap(" + i + ", " + i + ")", Checks.with(5, 1, 30, 2).swap(i, i), false);
        }
        S.due("swap(0, 1) of none", new RingRunners().swap(0, 1), false);
        S.due("swap(0, 1) of one", Checks.with(5, 1).swap(0, 1), false);
        S.due("swap(5, 0) of six", Sentences.six().swap(5, 0), true);
        S.due("swap(5, 6) of six", Sentences.six().swap(5, 6), false);
        RingRunners swapped = Checks.with(5, 1, 30, 2, 7, 3);
        S.due("swap(2, 0)", swapped.swap(2, 0), true);
        S.dueRunners("swapped", swapped, "7:3 30:2 5:1");

        S.says(16, "both are one");
        S.dueWithout("swap(0, 0)", () -> Sentences.laden(5, 1, 30, 2), x -> x.swap(0, 0) ? 1 : 0, 0);
        S.dueWithout("swap(1, 1)", () -> Sentences.laden(5, 1, 30, 2), x -> x.swap(1, 1) ? 1 : 0, 0);
        S.due("swap(0, 0) of one", Checks.with(5, 1).swap(0, 0), false);
        // Two that are alike are not one.
        S.due("swap(0, 1) of like ones", Checks.with(5, 1, 5, 1).swap(0, 1), true);
    }

    private static void undo() {
        S.says(17, "The latest ACT is taken back: how many more can be");
        RingRunners x = Checks.with(0, 0);
        for (int v = 1; v <= 12; v++) {
            S.due("speed(0, " + v + ")", x.speed(0, v), v - 1);
        }
        S.due("count(3)", x.count(3), 12);
        for (int v = 11; v >= 0; v--) {
            S.due("undo()", x.undo(), v);
            S.due("of(0, 0)", x.of(0, 0), v);
        }
        // Behind a full round another one: it has room for twelve again.
        for (int v = 1; v <= 30; v++) {
            x.speed(0, v);
        }
        S.due("count(3)", x.count(3), 12);
        for (int n = 11; n >= 0; n--) {
            S.due("undo()", x.undo(), n);
        }
        S.dueRunners("twelve taken back of thirty", x, "18:0");

        S.says(17, "NONE: none can");
        S.due("undo()", x.undo(), NONE);
        S.dueRunners("none taken back", x, "18:0");
        S.dueWithout("undo() of a new one", () -> new RingRunners(), y -> y.undo(), NONE);
        S.due("undo() of one act", Checks.with(5, 1).undo(), 0);
        // A refused call is no act.
        RingRunners refused = Checks.with(5, 1);
        refused.run(41, 0);
        refused.gate();
        refused.gate();
        S.due("undo()", refused.undo(), 1);
        S.dueRunners("taken back", refused, "5:1");
        S.due("undo()", refused.undo(), 0);
        S.due("undo()", refused.undo(), NONE);
    }
}
