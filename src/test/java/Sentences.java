import java.io.IOException;
import java.nio.file.Files;
import java.nio.file.Path;
import java.util.ArrayList;
import java.util.List;
import java.util.function.Supplier;
import java.util.function.ToLongFunction;
import java.util.regex.Matcher;
import java.util.regex.Pattern;

/**
 * Holds tests against the document: each names the sentence that it is of, word by word, and at the end no sentence
 * that tells a bound may be without a test.
 */
final class Sentences extends Checks {
    static final int NONE = -1;
    static final int LEAST = Integer.MIN_VALUE;
    static final int MOST = Integer.MAX_VALUE;
    static final int[][] EDGE_TIMES = {{0, 1}, {9999, 1}, {0, 999}, {9999, 999}};
    static final int[][] NO_TIMES = {{-1, 1}, {10000, 1}, {0, 0}, {0, 1000}, {-1, 0}, {10000, 1000}, {5, -1},
        {LEAST, 1}, {MOST, 1}, {5, LEAST}, {5, MOST}, {LEAST, LEAST}, {MOST, MOST}};

    private static final int PROMISES = 65;

    interface Part {
        long told(boolean lower);
    }

    interface OfOne {
        long answer(RingRunners x, int i);
    }

    interface OfTwo {
        long answer(RingRunners x, int i, int j);
    }

    interface AtTime {
        long answer(RingRunners x, int p, int q);
    }

    // Number 0 is what stands ahead of promise 1; of it the terms alone have to be tested whole.
    private final List<String> texts = new ArrayList<>();
    private final List<boolean[]> tested = new ArrayList<>();
    private String sentence = "";
    private int dues = 1;
    private int sentences = 0;

    Sentences() {
        String document = read().replaceAll("```\\w*", " ").replaceAll("\\s+", " ");
        int from = 0;
        for (int n = 1; n <= PROMISES + 1; n++) {
            int to = document.indexOf(n <= PROMISES ? "## Promise " + n + ":" : "## Not promised");
            texts.add(document.substring(from, to));
            tested.add(new boolean[to - from]);
            from = to;
        }
    }

    private static String read() {
        try {
            return Files.readString(Path.of("../shared/DOC.md"));
        } catch (IOException e) {
            throw new IllegalStateException(e);
        }
    }

    /** What is checked from here on is what the document says by these words. */
    void says(int promise, String words) {
        endSentence();
        promise(promise);
        sentence = "promise " + promise + ", \"" + words + "\"";
        dues = 0;
        sentences++;
        String text = texts.get(promise);
        int at = text.indexOf(words);
        if (at < 0) {
            due(sentence + " in the document", 0, 1);
        }
        for (; at >= 0; at = text.indexOf(words, at + 1)) {
            for (int n = at; n < at + words.length(); n++) {
                tested.get(promise)[n] = true;
            }
        }
    }

    private void endSentence() {
        if (dues == 0) {
            super.due("a check of " + sentence, 0, 1);
        }
    }

    @Override
    void due(String call, long got, long want) {
        dues++;
        super.due(got == want ? call : sentence + ": " + call, got, want);
    }

    void dueFraction(String call, Part part, long upper, long lower) {
        dueParts(call, part.told(false), part.told(true), upper, lower);
    }

    /** Any answer will do but NONE. */
    void dueTold(String call, long got) {
        due(call + " is told", got == NONE ? 0 : 1, 1);
    }

    /** The answer is due, and everything in the object is as if nothing had been called. */
    void dueWithout(String call, Supplier<RingRunners> made, ToLongFunction<RingRunners> asked, long want) {
        RingRunners x = made.get();
        due(call, asked.applyAsLong(x), want);
        String is = allOf(x);
        String was = allOf(made.get());
        due(call + " changes nothing: it is " + is + ", was " + was, is.equals(was) ? 1 : 0, 1);
    }

    void dueRunners(String call, RingRunners x, String want) {
        String got = runnersOf(x);
        due(call + ": runners are " + got + ", due is " + want, got.equals(want) ? 1 : 0, 1);
    }

    /** Speeds and starts, as "5:0 40:11". */
    static String runnersOf(RingRunners x) {
        StringBuilder all = new StringBuilder();
        int size = x.count(0);
        for (int i = 0; i < size; i++) {
            all.append(i == 0 ? "" : " ").append(x.of(i, 0)).append(':').append(x.of(i, 1));
        }
        return all.toString();
    }

    /** All that an object holds: runners, acts, marks, tape; it takes the object apart. */
    static String allOf(RingRunners x) {
        StringBuilder all = new StringBuilder();
        for (int what = 0; what <= 9; what++) {
            all.append(x.count(what)).append(' ');
        }
        all.append("now ").append(runnersOf(x));
        for (int n = 0; n < 12 && x.undo() != NONE; n++) {
            all.append(", before ").append(runnersOf(x));
        }
        for (int mark = 0; mark < 3; mark++) {
            all.append(", mark ").append(x.take(mark)).append(' ').append(runnersOf(x));
        }
        return all.append(", tape ").append(x.text()).append(' ').append(runnersOf(x)).toString();
    }

    static RingRunners none() {
        return new RingRunners();
    }

    static RingRunners three() {
        return with(0, 0, 1, 3, 5, 6);
    }

    static RingRunners six() {
        return with(0, 0, 1, 3, 5, 6, 7, 1, 7, 1, 40, 11);
    }

    /** With runners, a mark, and bytes on the tape. */
    static RingRunners laden(int... speedsAndStarts) {
        RingRunners x = with(speedsAndStarts);
        x.keep(1);
        feed(x, " run 9 from 9;      ");
        return x;
    }

    void noSuchOne(String call, OfOne asked) {
        for (int i : new int[] {-1, 3, LEAST, MOST}) {
            due(call + " of " + i + " among three", asked.answer(three(), i), NONE);
        }
        dueTold(call + " of 0 among three", asked.answer(three(), 0));
        dueTold(call + " of 2 among three", asked.answer(three(), 2));
        due(call + " of 0 among none", asked.answer(none(), 0), NONE);
        due(call + " of -1 among none", asked.answer(none(), -1), NONE);
        due(call + " of 1 among one", asked.answer(with(3, 3), 1), NONE);
        due(call + " of 6 among six", asked.answer(six(), 6), NONE);
        dueTold(call + " of 5 among six", asked.answer(six(), 5));
        RingRunners x = three();
        x.drop(0);
        due(call + " of 2, of which one is gone", asked.answer(x, 2), NONE);
    }

    void noSuchOnes(String call, OfTwo asked) {
        noSuchOne(call + ", first,", (x, i) -> asked.answer(x, i, i == 1 ? 0 : 1));
        noSuchOne(call + ", second,", (x, i) -> asked.answer(x, i == 1 ? 0 : 1, i));
        due(call + " of -1, 3", asked.answer(three(), -1, 3), NONE);
        due(call + " of 3, 3", asked.answer(three(), 3, 3), NONE);
        due(call + " of -1, -1", asked.answer(three(), -1, -1), NONE);
    }

    void bothAreOne(String call, OfTwo asked) {
        for (int i = 0; i < 3; i++) {
            due(call + " of " + i + " twice", asked.answer(three(), i, i), NONE);
        }
        due(call + " of 0 twice, alone", asked.answer(with(3, 3), 0, 0), NONE);
        due(call + " of 5 twice", asked.answer(six(), 5, 5), NONE);
    }

    void noTime(String call, AtTime asked) {
        for (int[] time : NO_TIMES) {
            due(call + " at " + time[0] + " by " + time[1], asked.answer(three(), time[0], time[1]), NONE);
        }
    }

    /** As noTime, with the times at the bounds, which are told. */
    void noSuchTime(String call, AtTime asked) {
        noTime(call, asked);
        for (int[] time : EDGE_TIMES) {
            dueTold(call + " at " + time[0] + " by " + time[1], asked.answer(three(), time[0], time[1]));
        }
    }

    void finish(int firstPromise, int lastPromise) {
        endSentence();
        for (int n = firstPromise; n <= lastPromise; n++) {
            String text = texts.get(n);
            int from = n == 0 ? text.indexOf("## Terms") : 0;
            int to = n == 0 ? text.indexOf("Ahead of the calls") : text.length();
            Matcher bound = Pattern.compile("\\([^()]*\\)").matcher(text.substring(0, to));
            // The face of a call has parentheses, too: it ends with the second of its signs.
            int words = n == 0 ? from : text.indexOf("`: ") + 1;
            while (bound.find()) {
                if (bound.start() >= words) {
                    dueTested(n, bound.start(), bound.end());
                }
            }
            Matcher tail = Pattern.compile("NONE|-2|false:|III\\. ACTS").matcher(text);
            if (tail.find(words)) {
                dueTested(n, tail.start(), to);
            }
        }
        System.out.println(sentences + " sentences were looked at");
        super.finish(firstPromise, lastPromise);
    }

    private void dueTested(int promise, int from, int to) {
        String text = texts.get(promise);
        for (int n = from; n < to; n++) {
            if (!tested.get(promise)[n] && Character.isLetterOrDigit(text.charAt(n))) {
                String words = text.substring(n, Math.min(to, n + 60));
                super.due("a test of promise " + promise + ", \"" + words + "\"", 0, 1);
                return;
            }
        }
    }
}
