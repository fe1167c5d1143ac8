import java.util.TreeSet;

/** Counts answers that are not the due ones, promise by promise. */
class Checks {
    private final TreeSet<Integer> checked = new TreeSet<>();
    private int promise = 0;
    private int wrong = 0;

    void promise(int number) {
        promise = number;
        checked.add(number);
    }

    void due(String call, long got, long want) {
        if (got != want) {
            wrong++;
            System.out.println("promise " + promise + ": " + call + " answered " + got + ", due is " + want);
        }
    }

    void due(String call, boolean got, boolean want) {
        due(call, got ? 1 : 0, want ? 1 : 0);
    }

    /** Both parts of a fraction. */
    void dueParts(String call, long upper, long lower, long wantUpper, long wantLower) {
        due(call + " upper", upper, wantUpper);
        due(call + " lower", lower, wantLower);
    }

    void finish(int firstPromise, int lastPromise) {
        for (int n = firstPromise; n <= lastPromise; n++) {
            if (!checked.contains(n)) {
                wrong++;
                System.out.println("promise " + n + " was not checked");
            }
        }
        String which = lastPromise == 0 ? "the terms" : "promises " + firstPromise + " to " + lastPromise;
        System.out.println(wrong == 0 ? which + " hold" : wrong + " wrong");
        if (wrong != 0) {
            System.exit(1);
        }
    }

    /** An object with runners, each told by its speed and start. */
    static RingRunners with(int... speedsAndStarts) {
        RingRunners x = new RingRunners();
        for (int n = 0; n < speedsAndStarts.length; n += 2) {
            x.run(speedsAndStarts[n], speedsAndStarts[n + 1]);
        }
        return x;
    }

    static int feed(RingRunners x, String twenty) {
        int[] words = new int[5];
        for (int n = 0; n < 20; n++) {
            words[n / 4] = words[n / 4] << 8 | twenty.charAt(n) & 255;
        }
        return x.feed(words[0], words[1], words[2], words[3], words[4]);
    }

    static void feedAll(RingRunners x, String text) {
        StringBuilder all = new StringBuilder(text);
        while (all.length() % 20 != 0) {
            all.append('?');
        }
        for (int n = 0; n < all.length(); n += 20) {
            feed(x, all.substring(n, n + 20));
        }
        x.back(all.length() - text.length());
    }

    static int read(RingRunners x, String text) {
        feedAll(x, text);
        return x.text();
    }

    static String state(RingRunners x) {
        StringBuilder text = new StringBuilder();
        int length = x.spell(-1);
        for (int n = 0; n < length; n++) {
            text.append((char) x.spell(n));
        }
        return text.toString();
    }

    void dueState(RingRunners x, String want) {
        if (!state(x).equals(want)) {
            wrong++;
            System.out.println("promise " + promise + ": runners are " + state(x) + ", due is " + want);
        }
    }
}
