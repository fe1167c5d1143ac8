/** Promises 1 to 17: the tape, the text and the acts. */
public final class ToldAndActsTest {
    private static final int NONE = -1;
    private static final Checks CHECKS = new Checks();

    public static void main(String[] args) {
        newObject();
        tape();
        texts();
        faults();
        textForgets();
        running();
        dropping();
        speeds();
        starts();
        pacing();
        going();
        turning();
        gating();
        mirroring();
        keeping();
        swapping();
        undoing();
        CHECKS.finish(1, 17);
    }

    private static void newObject() {
        CHECKS.promise(1);
        RingRunners x = new RingRunners();
        for (int what = 0; what <= 9; what++) {
            CHECKS.due("count(" + what + ")", x.count(what), 0);
        }
        CHECKS.due("NONE", RingRunners.NONE, -1);
        CHECKS.due("undo()", x.undo(), NONE);
        CHECKS.due("take(0)", x.take(0), NONE);
        CHECKS.due("drop(0)", x.drop(0), false);
        CHECKS.due("of(0, 0)", x.of(0, 0), NONE);
        // Two objects have nothing in common.
        x.run(1, 1);
        CHECKS.due("count(0) of another", new RingRunners().count(0), 0);
    }

    private static void tape() {
        CHECKS.promise(2);
        RingRunners x = new RingRunners();
        for (int n = 20; n <= 200; n += 20) {
            CHECKS.due("feed", Checks.feed(x, "                    "), n);
        }
        CHECKS.due("feed of a full tape", x.feed(1, 2, 3, 4, 5), NONE);
        CHECKS.due("count(4)", x.count(4), 200);
        CHECKS.due("back(1)", x.back(1), 199);
        CHECKS.due("feed with room for one", x.feed(1, 2, 3, 4, 5), NONE);
        CHECKS.due("back(19)", x.back(19), 180);
        CHECKS.due("feed with room for twenty", x.feed(0x20202020, 0x2072756E, 0x20313220, 0x66726F6D, 0x20333B20),
            200);
        CHECKS.due("text()", x.text(), 1);
        CHECKS.dueState(x, "run 12 from 3;");
        // The highest bit of a word is of its first byte alone.
        CHECKS.due("feed", x.feed(0x20202020, 0xFF202020, 0, 0, 0), 20);
        CHECKS.due("text()", x.text(), -4 - 4);

        CHECKS.promise(3);
        x = new RingRunners();
        CHECKS.due("back(1)", x.back(1), NONE);
        CHECKS.due("back(0)", x.back(0), 0);
        Checks.feed(x, "run 7;run 8;run 9;??");
        CHECKS.due("back(-1)", x.back(-1), NONE);
        CHECKS.due("back(least)", x.back(Integer.MIN_VALUE), NONE);
        CHECKS.due("back(21)", x.back(21), NONE);
        CHECKS.due("back(most)", x.back(Integer.MAX_VALUE), NONE);
        CHECKS.due("count(4)", x.count(4), 20);
        CHECKS.due("back(2)", x.back(2), 18);
        CHECKS.due("back(6)", x.back(6), 12);
        CHECKS.due("text()", x.text(), 2);
        CHECKS.dueState(x, "run 7;run 8;");
        Checks.feed(x, "run 7;run 8;run 9;??");
        CHECKS.due("back(20)", x.back(20), 0);
    }

    private static void texts() {
        CHECKS.promise(4);
        good("", 0, "");
        good(" \n ", 0, "");
        good("run 0;", 1, "run 0;");
        good("run 40 from 11;", 1, "run 40 from 11;");
        good("run 05 from 00;", 1, "run 5;");
        good("run 39 from 9;run 09;run 9 from 09;", 3, "run 39 from 9;run 9;run 9 from 9;");
        good("\nrun\n5\nfrom\n3\n;\n", 1, "run 5 from 3;");
        good("  run  5  from  3  ;  run 6;", 2, "run 5 from 3;run 6;");
        good("run 1;run 1 from 1;run 1;run 4;run 5;run 6;", 6, "run 1;run 1 from 1;run 1;run 4;run 5;run 6;");
    }

    private static void good(String text, int size, String state) {
        RingRunners x = Checks.with(9, 9);
        CHECKS.due("text() of " + text, Checks.read(x, text), size);
        CHECKS.dueState(x, state);
        CHECKS.due("count(4) behind " + text, x.count(4), 0);
    }

    private static void faults() {
        bad("x", 0);
        bad("ru", 0);
        bad("runs 5;", 0);
        bad("runa 5;", 0);
        bad("runz 5;", 0);
        bad("gun 5;", 0);
        bad("ran 5;", 0);
        bad("run{ 5;", 3);
        bad("run` 5;", 3);
        bad(" RUN 5;", 1);
        bad("from 5;", 0);
        bad("5;", 0);
        bad(";", 0);
        bad("run", 3);
        bad("run ", 4);
        bad("run;", 3);
        bad("runX5;", 3);
        bad("run5;", 3);
        bad("run run 5;", 4);
        bad("run -5;", 4);
        bad("run 41;", 4);
        bad("run 99;", 4);
        bad("run 005;", 4);
        bad("run 100;", 4);
        bad("run 5", 5);
        bad("run 5 ", 6);
        bad("run 5 6;", 6);
        bad("run 5.", 5);
        bad("run 5from 3;", 5);
        bad("run 5 fro 3;", 6);
        bad("run 5 grom 3;", 6);
        bad("run 5 froms 3;", 6);
        bad("run 5: ", 5);
        bad("run 5/ ", 5);
        bad("run 5 run 6;", 6);
        bad("run 5run 6;", 5);
        bad("run 5 from", 10);
        bad("run 5 from ;", 11);
        bad("run 5 from3;", 10);
        bad("run 5 from 12;", 11);
        bad("run 5 from 011;", 11);
        bad("run 5 from 3", 12);
        bad("run 5 from 3 from 3;", 13);
        bad("run 5 from 3 4;", 13);
        bad("run 5 from 3run 4;", 12);
        bad("run 5;;", 6);
        bad("run 5;\trun 6;", 6);
        bad("run 5;run 6;x", 12);
        bad("run 1;run 1;run 1;run 1;run 1;run 1; run 1;", 37);
        bad("run 1;run 1;run 1;run 1;run 1;run 1; 5", 37);
        bad("run 5;\u0000", 6);
    }

    private static void bad(String text, int fault) {
        RingRunners x = Checks.with(9, 9);
        CHECKS.due("text() of " + text, Checks.read(x, text), -4 - fault);
        CHECKS.dueState(x, "run 9 from 9;");
        CHECKS.due("count(4) behind " + text, x.count(4), 0);
        CHECKS.due("count(3) behind " + text, x.count(3), 1);
    }

    private static void textForgets() {
        RingRunners x = Checks.with(1, 1, 2, 2);
        x.keep(0);
        x.keep(2);
        Checks.read(x, "run 5; run");
        CHECKS.due("count(7) behind a fault", x.count(7), 2);
        CHECKS.due("count(9) behind a fault", x.count(9), 2);
        CHECKS.due("count(3) behind a fault", x.count(3), 2);
        CHECKS.due("text()", Checks.read(x, "run 5;"), 1);
        CHECKS.due("count(7)", x.count(7), 0);
        CHECKS.due("count(9)", x.count(9), 0);
        CHECKS.due("take(0)", x.take(0), NONE);
        CHECKS.due("take(2)", x.take(2), NONE);
        CHECKS.due("count(3)", x.count(3), 0);
        CHECKS.due("undo()", x.undo(), NONE);
        CHECKS.dueState(x, "run 5;");
    }

    private static void running() {
        CHECKS.promise(5);
        RingRunners x = new RingRunners();
        CHECKS.due("run(-1, 0)", x.run(-1, 0), NONE);
        CHECKS.due("run(41, 0)", x.run(41, 0), NONE);
        CHECKS.due("run(0, -1)", x.run(0, -1), NONE);
        CHECKS.due("run(0, 12)", x.run(0, 12), NONE);
        CHECKS.due("count(3)", x.count(3), 0);
        CHECKS.due("run(0, 0)", x.run(0, 0), 0);
        CHECKS.due("run(40, 11)", x.run(40, 11), 1);
        for (int n = 2; n < 6; n++) {
            CHECKS.due("run(40, 11)", x.run(40, 11), n);
        }
        CHECKS.due("run(1, 1) a seventh", x.run(1, 1), NONE);
        CHECKS.due("count(3)", x.count(3), 6);
        CHECKS.dueState(x, "run 0;run 40 from 11;run 40 from 11;run 40 from 11;run 40 from 11;run 40 from 11;");
    }

    private static void dropping() {
        CHECKS.promise(6);
        RingRunners x = Checks.with(1, 1, 2, 2, 3, 3);
        CHECKS.due("drop(-1)", x.drop(-1), false);
        CHECKS.due("drop(3)", x.drop(3), false);
        CHECKS.due("count(3)", x.count(3), 3);
        CHECKS.due("drop(1)", x.drop(1), true);
        CHECKS.dueState(x, "run 1 from 1;run 3 from 3;");
        CHECKS.due("drop(1)", x.drop(1), true);
        CHECKS.due("drop(0)", x.drop(0), true);
        CHECKS.dueState(x, "");
        CHECKS.due("drop(0)", x.drop(0), false);
        CHECKS.due("count(3)", x.count(3), 6);
        x.undo();
        x.undo();
        x.undo();
        CHECKS.dueState(x, "run 1 from 1;run 2 from 2;run 3 from 3;");
    }

    private static void speeds() {
        CHECKS.promise(7);
        RingRunners x = Checks.with(5, 1, 0, 2);
        CHECKS.due("speed(2, 1)", x.speed(2, 1), NONE);
        CHECKS.due("speed(-1, 1)", x.speed(-1, 1), NONE);
        CHECKS.due("speed(0, 41)", x.speed(0, 41), NONE);
        CHECKS.due("speed(0, -1)", x.speed(0, -1), NONE);
        CHECKS.due("speed(0, 5)", x.speed(0, 5), NONE);
        CHECKS.due("count(3)", x.count(3), 2);
        CHECKS.due("speed(1, 40)", x.speed(1, 40), 0);
        CHECKS.due("speed(0, 0)", x.speed(0, 0), 5);
        CHECKS.dueState(x, "run 0 from 1;run 40 from 2;");
        CHECKS.due("undo()", x.undo(), 3);
        CHECKS.dueState(x, "run 5 from 1;run 40 from 2;");
    }

    private static void starts() {
        CHECKS.promise(8);
        RingRunners x = Checks.with(5, 1, 6, 0);
        CHECKS.due("start(2, 1)", x.start(2, 1), NONE);
        CHECKS.due("start(-1, 1)", x.start(-1, 1), NONE);
        CHECKS.due("start(0, 12)", x.start(0, 12), NONE);
        CHECKS.due("start(0, -1)", x.start(0, -1), NONE);
        CHECKS.due("start(0, 1)", x.start(0, 1), NONE);
        CHECKS.due("count(3)", x.count(3), 2);
        CHECKS.due("start(1, 11)", x.start(1, 11), 0);
        CHECKS.due("start(0, 0)", x.start(0, 0), 1);
        CHECKS.dueState(x, "run 5;run 6 from 11;");
        CHECKS.due("undo()", x.undo(), 3);
        CHECKS.dueState(x, "run 5 from 1;run 6 from 11;");
    }

    private static void pacing() {
        CHECKS.promise(9);
        RingRunners x = new RingRunners();
        CHECKS.due("pace(1) of none", x.pace(1), NONE);
        x = Checks.with(5, 1, 30, 2);
        CHECKS.due("pace(0)", x.pace(0), NONE);
        CHECKS.due("pace(11)", x.pace(11), NONE);
        CHECKS.due("pace(-6)", x.pace(-6), NONE);
        CHECKS.due("pace(most)", x.pace(Integer.MAX_VALUE), NONE);
        CHECKS.due("pace(least)", x.pace(Integer.MIN_VALUE), NONE);
        CHECKS.dueState(x, "run 5 from 1;run 30 from 2;");
        CHECKS.due("count(3)", x.count(3), 2);
        CHECKS.due("pace(10)", x.pace(10), 2);
        CHECKS.dueState(x, "run 15 from 1;run 40 from 2;");
        CHECKS.due("pace(-15)", x.pace(-15), 2);
        CHECKS.dueState(x, "run 0 from 1;run 25 from 2;");
        CHECKS.due("undo()", x.undo(), 3);
        CHECKS.dueState(x, "run 15 from 1;run 40 from 2;");
        x = Checks.with(0, 0);
        CHECKS.due("pace(40)", x.pace(40), 1);
        CHECKS.due("pace(-40)", x.pace(-40), 1);
    }

    private static void going() {
        CHECKS.promise(10);
        RingRunners x = new RingRunners();
        CHECKS.due("onward(1) of none", x.onward(1), NONE);
        x = Checks.with(0, 5, 1, 11, 7, 4, 12, 3);
        CHECKS.due("onward(0)", x.onward(0), NONE);
        CHECKS.due("onward(-1)", x.onward(-1), NONE);
        CHECKS.due("onward(10000)", x.onward(10000), NONE);
        CHECKS.due("onward(12)", x.onward(12), NONE);
        CHECKS.due("count(3)", x.count(3), 4);
        CHECKS.due("onward(1)", x.onward(1), 2);
        CHECKS.dueState(x, "run 0 from 5;run 1;run 7 from 11;run 12 from 3;");
        CHECKS.due("onward(6)", x.onward(6), 2);
        CHECKS.dueState(x, "run 0 from 5;run 1 from 6;run 7 from 5;run 12 from 3;");
        CHECKS.due("onward(9999)", x.onward(9999), 2);
        CHECKS.dueState(x, "run 0 from 5;run 1 from 9;run 7 from 2;run 12 from 3;");
        CHECKS.due("undo()", x.undo(), 6);
        CHECKS.dueState(x, "run 0 from 5;run 1 from 6;run 7 from 5;run 12 from 3;");
        x = Checks.with(5, 0, 12, 1, 40, 11);
        CHECKS.due("onward(2)", x.onward(2), 2);
        CHECKS.dueState(x, "run 5 from 10;run 12 from 1;run 40 from 7;");
    }

    private static void turning() {
        CHECKS.promise(11);
        RingRunners x = new RingRunners();
        CHECKS.due("turn(1) of none", x.turn(1), NONE);
        x = Checks.with(0, 0, 1, 11, 2, 6);
        CHECKS.due("turn(0)", x.turn(0), NONE);
        CHECKS.due("turn(12)", x.turn(12), NONE);
        CHECKS.due("turn(-1)", x.turn(-1), NONE);
        CHECKS.due("count(3)", x.count(3), 3);
        CHECKS.due("turn(1)", x.turn(1), 3);
        CHECKS.dueState(x, "run 0 from 1;run 1;run 2 from 7;");
        CHECKS.due("turn(11)", x.turn(11), 3);
        CHECKS.dueState(x, "run 0;run 1 from 11;run 2 from 6;");
        CHECKS.due("undo()", x.undo(), 4);
        CHECKS.dueState(x, "run 0 from 1;run 1;run 2 from 7;");
    }

    private static void gating() {
        CHECKS.promise(12);
        RingRunners x = new RingRunners();
        CHECKS.due("gate() of none", x.gate(), NONE);
        x = Checks.with(0, 0, 1, 11, 2, 6);
        CHECKS.due("gate()", x.gate(), 2);
        CHECKS.dueState(x, "run 0;run 1;run 2;");
        CHECKS.due("gate()", x.gate(), NONE);
        CHECKS.due("count(3)", x.count(3), 4);
        CHECKS.due("undo()", x.undo(), 3);
        CHECKS.dueState(x, "run 0;run 1 from 11;run 2 from 6;");
        x = Checks.with(3, 1, 4, 0);
        CHECKS.due("gate()", x.gate(), 1);
        CHECKS.dueState(x, "run 3;run 4;");
    }

    private static void mirroring() {
        CHECKS.promise(13);
        RingRunners x = new RingRunners();
        CHECKS.due("mirror() of none", x.mirror(), NONE);
        x = Checks.with(2, 0, 4, 11, 10, 6);
        CHECKS.due("mirror()", x.mirror(), 4);
        CHECKS.dueState(x, "run 8;run 6 from 1;run 0 from 6;");
        // The greatest speed is another one now.
        CHECKS.due("mirror()", x.mirror(), 4);
        CHECKS.dueState(x, "run 0;run 2 from 11;run 8 from 6;");
        CHECKS.due("undo()", x.undo(), 4);
        CHECKS.dueState(x, "run 8;run 6 from 1;run 0 from 6;");
        x = Checks.with(0, 0, 0, 6);
        CHECKS.due("mirror()", x.mirror(), NONE);
        CHECKS.due("count(3)", x.count(3), 2);
        x = Checks.with(2, 0, 1, 6, 0, 0);
        CHECKS.due("mirror()", x.mirror(), 2);
    }

    private static void keeping() {
        CHECKS.promise(14);
        RingRunners x = Checks.with(1, 1, 2, 2);
        CHECKS.due("keep(-1)", x.keep(-1), NONE);
        CHECKS.due("keep(3)", x.keep(3), NONE);
        CHECKS.due("keep(0)", x.keep(0), 2);
        CHECKS.due("count(3)", x.count(3), 2);
        x.drop(0);
        CHECKS.due("keep(2)", x.keep(2), 1);
        x.undo();
        CHECKS.due("count(7) behind undo", x.count(7), 2);
        CHECKS.due("count(8) behind undo", x.count(8), 0);
        CHECKS.due("count(9) behind undo", x.count(9), 1);

        CHECKS.promise(15);
        CHECKS.due("take(-1)", x.take(-1), NONE);
        CHECKS.due("take(3)", x.take(3), NONE);
        CHECKS.due("take(1)", x.take(1), NONE);
        CHECKS.due("count(3)", x.count(3), 2);
        CHECKS.due("take(2)", x.take(2), 1);
        CHECKS.dueState(x, "run 2 from 2;");
        x.speed(0, 9);
        CHECKS.due("take(2)", x.take(2), 1);
        CHECKS.dueState(x, "run 2 from 2;");
        // As it is already: an act all the same.
        CHECKS.due("take(2)", x.take(2), 1);
        CHECKS.due("count(3)", x.count(3), 6);
        CHECKS.due("take(0)", x.take(0), 2);
        CHECKS.dueState(x, "run 1 from 1;run 2 from 2;");
        CHECKS.due("undo()", x.undo(), 6);
        CHECKS.dueState(x, "run 2 from 2;");
        // A mark that keeps no runners is not an empty one.
        x.drop(0);
        CHECKS.due("keep(1)", x.keep(1), 0);
        x.run(7, 7);
        CHECKS.due("take(1)", x.take(1), 0);
        CHECKS.dueState(x, "");
    }

    private static void swapping() {
        CHECKS.promise(16);
        RingRunners x = Checks.with(1, 1, 2, 2, 3, 3);
        CHECKS.due("swap(0, 0)", x.swap(0, 0), false);
        CHECKS.due("swap(0, 3)", x.swap(0, 3), false);
        CHECKS.due("swap(3, 0)", x.swap(3, 0), false);
        CHECKS.due("swap(-1, 0)", x.swap(-1, 0), false);
        CHECKS.due("count(3)", x.count(3), 3);
        CHECKS.due("swap(0, 2)", x.swap(0, 2), true);
        CHECKS.dueState(x, "run 3 from 3;run 2 from 2;run 1 from 1;");
        CHECKS.due("swap(1, 0)", x.swap(1, 0), true);
        CHECKS.dueState(x, "run 2 from 2;run 3 from 3;run 1 from 1;");
        CHECKS.due("undo()", x.undo(), 4);
        CHECKS.dueState(x, "run 3 from 3;run 2 from 2;run 1 from 1;");
        x = Checks.with(1, 1, 1, 1);
        CHECKS.due("swap(0, 1) of like ones", x.swap(0, 1), true);
        CHECKS.due("count(3)", x.count(3), 3);
    }

    private static void undoing() {
        CHECKS.promise(17);
        RingRunners x = new RingRunners();
        CHECKS.due("undo()", x.undo(), NONE);
        x.run(0, 0);
        for (int v = 1; v <= 13; v++) {
            x.speed(0, v);
        }
        CHECKS.due("count(3)", x.count(3), 12);
        for (int v = 12; v >= 1; v--) {
            CHECKS.due("undo()", x.undo(), v - 1);
            CHECKS.due("of(0, 0)", x.of(0, 0), v);
        }
        CHECKS.due("undo() of a thirteenth", x.undo(), NONE);
        CHECKS.dueState(x, "run 1;");
        // What is taken back can't be taken back again, and new acts come behind.
        x.turn(5);
        x.speed(0, 7);
        CHECKS.due("undo()", x.undo(), 1);
        x.pace(3);
        CHECKS.dueState(x, "run 4 from 5;");
        CHECKS.due("undo()", x.undo(), 1);
        CHECKS.due("undo()", x.undo(), 0);
        CHECKS.dueState(x, "run 1;");
        CHECKS.due("undo()", x.undo(), NONE);
    }
}
