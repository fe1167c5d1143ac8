/**
 * Runs of calls, made up by a fixed rule, on the class and on the model: every answer must be the same.
 * Arguments: how many runs, the first run's number (40 and 1 without).
 */
public final class ModelTest {
    private static final int CALLS = 512;

    private final RingRunners real = new RingRunners();
    private final Model model = new Model();
    private final StringBuilder told = new StringBuilder();
    private final int run;
    private long seed;
    private int wrong = 0;

    private ModelTest(int run) {
        this.run = run;
        seed = run * 7919L + 12345;
    }

    public static void main(String[] args) {
        int runs = args.length > 0 ? Integer.parseInt(args[0]) : 40;
        int first = args.length > 1 ? Integer.parseInt(args[1]) : 1;
        int wrong = 0;
        for (int run = first; run < first + runs; run++) {
            wrong += new ModelTest(run).play() ? 0 : 1;
        }
        System.out.println(wrong == 0 ? runs + " runs: all answers as the model's" : wrong + " runs differ");
        if (wrong != 0) {
            System.exit(1);
        }
    }

    private boolean play() {
        for (int n = 0; n < CALLS && wrong == 0; n++) {
            int kind = below(100);
            if (kind < 30) {
                act();
            } else if (kind < 36) {
                tell();
            } else if (kind < 62) {
                atATime();
            } else if (kind < 82) {
                atAllTimes();
            } else if (kind < 94) {
                onAGrid();
            } else {
                were();
            }
        }
        if (wrong != 0) {
            System.out.println("run " + run + ":\n" + told);
        }
        return wrong == 0;
    }

    private void due(String call, long got, long want) {
        if (got != want) {
            wrong++;
            told.append(call).append(" answered ").append(got).append(", the model ").append(want).append('\n');
        }
    }

    private int below(int bound) {
        seed = seed * 6364136223846793005L + 1442695040888963407L;
        return (int) Long.remainderUnsigned(seed >>> 33, bound);
    }

    private boolean flip() {
        return below(2) == 0;
    }

    private int oneOf(int... choices) {
        return choices[below(choices.length)];
    }

    // Mostly from least to most, at times an edge or far out.
    private int about(int least, int most) {
        if (below(12) > 0) {
            return least + below(most - least + 1);
        }
        return oneOf(least - 1, least, most, most + 1, Integer.MIN_VALUE, Integer.MAX_VALUE, -1, -2, 0);
    }

    private int runner() {
        return about(0, Math.max(0, model.runners.size() - 1));
    }

    private int p() {
        return flip() ? about(0, 30) : about(0, 9999);
    }

    private int q() {
        return flip() ? about(1, 12) : about(1, 999);
    }

    private int newSpeed() {
        return run % 3 == 0 ? about(0, 40) : about(0, run % 3 == 1 ? 6 : 12);
    }

    private int newStart() {
        return run % 4 == 0 ? 0 : about(0, 11);
    }

    private void act() {
        int a = runner();
        int b = runner();
        switch (below(18)) {
            case 0: case 1: case 2: case 3: case 4: {
                int v = newSpeed();
                int s = newStart();
                told.append("run ").append(v).append(' ').append(s).append('\n');
                due("run", real.run(v, s), model.run(v, s));
                break;
            }
            case 5:
                told.append("drop ").append(a).append('\n');
                due("drop", real.drop(a) ? 1 : 0, model.drop(a) ? 1 : 0);
                break;
            case 6: case 7: {
                int v = newSpeed();
                told.append("speed ").append(a).append(' ').append(v).append('\n');
                due("speed", real.speed(a, v), model.set(a, 0, v, 40));
                break;
            }
            case 8: {
                int s = about(0, 11);
                told.append("start ").append(a).append(' ').append(s).append('\n');
                due("start", real.start(a, s), model.set(a, 1, s, 11));
                break;
            }
            case 9: {
                int by = about(-5, 5);
                told.append("pace ").append(by).append('\n');
                due("pace", real.pace(by), model.pace(by));
                break;
            }
            case 10: {
                int n = flip() ? about(1, 12) : about(1, 9999);
                told.append("onward ").append(n).append('\n');
                due("onward", real.onward(n), model.onward(n));
                break;
            }
            case 11: {
                int s = about(1, 11);
                told.append("turn ").append(s).append('\n');
                due("turn", real.turn(s), model.turn(s));
                break;
            }
            case 12:
                told.append("gate\n");
                due("gate", real.gate(), model.gate());
                break;
            case 13:
                told.append("mirror\n");
                due("mirror", real.mirror(), model.mirror());
                break;
            case 14: {
                int mark = about(0, 2);
                told.append("keep ").append(mark).append('\n');
                due("keep", real.keep(mark), model.keep(mark));
                break;
            }
            case 15: {
                int mark = about(0, 2);
                told.append("take ").append(mark).append('\n');
                due("take", real.take(mark), model.take(mark));
                break;
            }
            case 16:
                told.append("swap ").append(a).append(' ').append(b).append('\n');
                due("swap", real.swap(a, b) ? 1 : 0, model.swap(a, b) ? 1 : 0);
                break;
            default:
                for (int n = below(4); n >= 0; n--) {
                    told.append("undo\n");
                    due("undo", real.undo(), model.undo());
                }
                break;
        }
        for (int what = -1; what <= 10; what++) {
            due("count " + what, real.count(what), model.count(what));
        }
        int i = runner();
        int what = about(0, 1);
        due("of " + i + " " + what, real.of(i, what), model.of(i, what));
    }

    private void tell() {
        String text = below(3) > 0 ? goodText() : badText();
        for (int n = 0; n < text.length(); n += 20) {
            StringBuilder twenty = new StringBuilder(text.substring(n, Math.min(n + 20, text.length())));
            while (twenty.length() < 20) {
                twenty.append(' ');
            }
            int[] words = new int[5];
            for (int k = 0; k < 20; k++) {
                words[k / 4] = words[k / 4] << 8 | twenty.charAt(k) & 255;
            }
            told.append("feed \"").append(twenty.toString().replace("\n", "\\n")).append("\"\n");
            due("feed", real.feed(words[0], words[1], words[2], words[3], words[4]),
                model.feed(words[0], words[1], words[2], words[3], words[4]));
        }
        int too = below(4) == 0 ? about(0, 25) : (20 - text.length() % 20) % 20;
        told.append("back ").append(too).append('\n');
        due("back", real.back(too), model.back(too));
        due("count 4", real.count(4), model.count(4));
        if (below(5) > 0) {
            told.append("text\n");
            due("text", real.text(), model.text());
        }
        for (int what = -1; what <= 10; what++) {
            due("count " + what, real.count(what), model.count(what));
        }
    }

    private String blank() {
        return oneOf(0, 0, 0, 1) == 0 ? "" : below(5) == 0 ? "\n " : " ";
    }

    private String goodText() {
        StringBuilder text = new StringBuilder(blank());
        for (int n = below(8); n > 0; n--) {
            int speed = newSpeed();
            text.append("run").append(flip() ? " " : blank() + "\n").append(speed >= 0 && below(6) == 0 ? "0" : "");
            text.append(below(30) == 0 ? speed : Math.floorMod(speed, 41));
            if (flip()) {
                text.append(' ').append(blank()).append("from ").append(blank()).append(below(12 + below(2)));
            }
            text.append(blank()).append(';').append(blank());
        }
        return text.toString();
    }

    private String badText() {
        String[] bits = {"run", " ", "5", ";", "from", "\n", "11", "r", "0", "X", "\u00ff", "run 1;", "run 2 from 3;",
            "runs", "40", "41", "100", "007", "fro", "-1", "\t", "RUN"};
        StringBuilder text = new StringBuilder(flip() ? goodText() : "");
        for (int n = below(9); n > 0; n--) {
            text.append(bits[below(bits.length)]);
        }
        if (text.length() > 0 && flip()) {
            text.setLength(below(text.length()));
        }
        return text.toString();
    }

    private void atATime() {
        int i = runner();
        int j = runner();
        int p = p();
        int q = q();
        boolean lower = flip();
        String args = " " + i + " " + j + " " + p + " " + q + " " + lower;
        due("place" + args, real.place(i, p, q, lower), model.place(i, p, q, lower));
        due("apart" + args, real.apart(i, j, p, q, lower), model.apart(i, j, p, q, lower));
        due("nearest" + args, real.nearest(i, p, q, lower), model.nearest(i, p, q, lower));
        due("lonely" + args, real.lonely(p, q), model.lonely(p, q));
        due("hole" + args, real.hole(p, q, lower), model.hole(p, q, lower));
        due("alone" + args, real.alone(p, q), model.alone(p, q));
        due("crowd" + args, real.crowd(p, q), model.crowd(p, q));
        due("ranked" + args, real.ranked(p, q, i), model.ranked(p, q, i));
        due("laps" + args, real.laps(i, p, q), model.laps(i, p, q));
        int what = about(0, 2);
        due("closest" + args + " " + what, real.closest(p, q, what), model.closest(p, q, what));
        due("between" + args, real.between(i, p, q, lower), model.between(i, p, q, lower));
        due("passed" + args, real.passed(i, j, p, q), model.passed(i, j, p, q));
        due("meetsNext" + args, real.meetsNext(i, j, p, q, lower), model.meetsNext(i, j, p, q, lower));
        int n = about(-1, 70);
        due("tells" + args + " " + n, real.tells(p, q, n), model.tells(p, q, n));
        due("spell " + n, real.spell(n), model.spell(n));
        due("spell -1", real.spell(-1), model.spell(-1));
    }

    private void atAllTimes() {
        int i = runner();
        int j = runner();
        int k = flip() ? about(0, 3) : about(0, 60);
        boolean lower = flip();
        boolean to = flip();
        String args = " " + i + " " + j + " " + k + " " + to + " " + lower;
        due("meets" + args, real.meets(i, j), model.meets(i, j));
        due("meeting" + args, real.meeting(i, j, k, lower), model.meeting(i, j, k, lower));
        due("gather", real.gather(), model.gather());
        due("period", real.period(lower), model.period(lower));
        switch (below(10)) {
            case 0:
                due("best" + args, real.best(i, k), model.best(i, k));
                due("best" + args, real.best(i, k & 3), model.best(i, k & 3));
                break;
            case 1:
                due("tight" + args, real.tight(i), model.tight(i));
                due("never", real.never(), model.never());
                due("tights", real.tights(), model.tights());
                due("loneliest", real.loneliest(), model.loneliest());
                break;
            case 2:
                due("stretches" + args, real.stretches(i), model.stretches(i));
                due("stretch" + args, real.stretch(i, k, to, lower), model.stretch(i, k, to, lower));
                break;
            case 3:
                due("hours" + args, real.hours(i, lower), model.hours(i, lower));
                break;
            case 4: {
                int p = p();
                int q = q();
                due("next" + args + " " + p + " " + q, real.next(i, p, q, lower), model.next(i, p, q, lower));
                break;
            }
            case 5: {
                int w = about(1, 12);
                int u = about(0, Math.max(1, Math.min(12, w)));
                due("hoursBy" + args + " " + u + " " + w, real.hoursBy(i, u, w, lower),
                    model.hoursBy(i, u, w, lower));
                break;
            }
            case 6:
                due("both" + args, real.both(i, j, lower), model.both(i, j, lower));
                break;
            case 7:
                if (below(3) == 0) {
                    due("someone " + lower, real.someone(lower), model.someone(lower));
                }
                break;
            case 8:
                due("firsts " + i, real.firsts(i), model.firsts(i));
                due("meetings", real.meetings(), model.meetings());
                break;
            default: {
                int n = below(4) == 0 ? NONE_OR_LESS[below(3)] : about(-1, 200);
                due("report " + i + " " + n, real.report(i, n), model.report(i, n));
                due("report " + i + " -1", real.report(i, -1), model.report(i, -1));
                break;
            }
        }
    }

    private static final int[] NONE_OR_LESS = {-1, -2, Integer.MIN_VALUE};

    private void onAGrid() {
        int i = runner();
        int m = flip() ? about(1, 30) : below(4) == 0 ? about(1, 999) : about(1, 99);
        String args = " " + i + " " + m;
        int what = about(0, 2);
        due("grid" + args + " " + what, real.grid(i, m, what), model.grid(i, m, what));
        due("dense" + args, real.dense(i, m), model.dense(i, m));
        due("divided" + args, real.divided(i), model.divided(i));
        due("mates" + args, real.mates(i), model.mates(i));
        due("rests" + args, real.rests(i, m), model.rests(i, m));
        due("prime", real.prime(), model.prime());
        if (below(4) == 0) {
            due("leastGrid" + args, real.leastGrid(i), model.leastGrid(i));
        }
    }

    private void were() {
        int i = runner();
        int j = runner();
        int v = about(0, 40);
        int what = about(0, 3);
        String args = " " + i + " " + j + " " + v + " " + what;
        due("were" + args, real.were(i, j, v, what), model.were(i, j, v, what));
        due("without" + args, real.without(i, j, what), model.without(i, j, what));
        switch (below(9)) {
            case 0:
                due("kindest" + args, real.kindest(i, j), model.kindest(i, j));
                break;
            case 1: case 2:
                due("kindestStart" + args, real.kindestStart(i, j), model.kindestStart(i, j));
                break;
            case 3:
                due("harsh" + args, real.harsh(i, j), model.harsh(i, j));
                break;
            default:
                break;
        }
    }
}
