import java.util.ArrayDeque;
import java.util.ArrayList;
import java.util.Collections;
import java.util.List;
import java.util.TreeSet;
import java.util.function.Predicate;

/**
 * The document told a second time, with exact fractions and by trying out every time that can matter; slow, and on
 * purpose without anything of the class it is held against.
 */
final class Model {
    private static final int NONE = -1;

    List<int[]> runners = new ArrayList<>();
    private final ArrayDeque<List<int[]>> acts = new ArrayDeque<>();
    private final List<List<int[]>> marks = new ArrayList<>(Collections.nCopies(3, null));
    private final List<Integer> tape = new ArrayList<>();

    // ---- told

    int feed(int a, int b, int c, int d, int e) {
        if (tape.size() > 180) {
            return NONE;
        }
        for (int word : new int[] {a, b, c, d, e}) {
            tape.add(word >>> 24);
            tape.add(word >>> 16 & 255);
            tape.add(word >>> 8 & 255);
            tape.add(word & 255);
        }
        return tape.size();
    }

    int back(int n) {
        if (n < 0 || n > tape.size()) {
            return NONE;
        }
        for (int k = 0; k < n; k++) {
            tape.remove(tape.size() - 1);
        }
        return tape.size();
    }

    int text() {
        List<int[]> told = new ArrayList<>();
        int fault = parse(told);
        tape.clear();
        if (fault >= 0) {
            return -4 - fault;
        }
        runners = told;
        acts.clear();
        Collections.fill(marks, null);
        return runners.size();
    }

    private int parse(List<int[]> told) {
        StringBuilder all = new StringBuilder();
        for (int b : tape) {
            all.append((char) b);
        }
        // Awaited: 0 run, 1 a speed, 2 from or an end, 3 a start, 4 an end.
        int awaited = 0;
        int speed = 0;
        int start = 0;
        boolean parted = true;
        int at = 0;
        while (at < all.length()) {
            int to = at + 1;
            char sign = all.charAt(at);
            String kind = sign >= 'a' && sign <= 'z' ? "[a-z]" : sign >= '0' && sign <= '9' ? "[0-9]" : "";
            while (!kind.isEmpty() && to < all.length() && all.substring(to, to + 1).matches(kind)) {
                to++;
            }
            String token = all.substring(at, to);
            if (token.equals(" ") || token.equals("\n")) {
                parted = true;
                at = to;
                continue;
            }
            boolean stands;
            if (token.equals(";")) {
                stands = awaited == 2 || awaited == 4;
                awaited = 0;
                if (stands) {
                    told.add(new int[] {speed, start});
                }
                parted = true;
            } else if (kind.equals("[a-z]")) {
                stands = parted && (awaited == 0 && token.equals("run") && told.size() < 6
                    || awaited == 2 && token.equals("from"));
                awaited++;
                start = 0;
                parted = false;
            } else if (kind.equals("[0-9]")) {
                stands = parted && token.length() < 3 && (awaited == 1 && Integer.parseInt(token) <= 40
                    || awaited == 3 && Integer.parseInt(token) <= 11);
                if (stands && awaited == 1) {
                    speed = Integer.parseInt(token);
                    start = 0;
                } else if (stands) {
                    start = Integer.parseInt(token);
                }
                awaited++;
                parted = false;
            } else {
                stands = false;
            }
            if (!stands) {
                return at;
            }
            at = to;
        }
        return awaited == 0 ? NONE : at;
    }

    // ---- acts

    private List<int[]> copy() {
        List<int[]> copy = new ArrayList<>();
        for (int[] runner : runners) {
            copy.add(runner.clone());
        }
        return copy;
    }

    private void act(List<int[]> changed) {
        acts.addLast(runners);
        if (acts.size() > 12) {
            acts.removeFirst();
        }
        runners = changed;
    }

    boolean has(int i) {
        return i >= 0 && i < runners.size();
    }

    private boolean two(int i, int j) {
        return has(i) && has(j) && i != j;
    }

    int run(int speed, int start) {
        if (speed < 0 || speed > 40 || start < 0 || start > 11 || runners.size() == 6) {
            return NONE;
        }
        List<int[]> changed = copy();
        changed.add(new int[] {speed, start});
        act(changed);
        return runners.size() - 1;
    }

    boolean drop(int i) {
        if (!has(i)) {
            return false;
        }
        List<int[]> changed = copy();
        changed.remove(i);
        act(changed);
        return true;
    }

    int set(int i, int which, int value, int most) {
        if (!has(i) || value < 0 || value > most || runners.get(i)[which] == value) {
            return NONE;
        }
        int old = runners.get(i)[which];
        List<int[]> changed = copy();
        changed.get(i)[which] = value;
        act(changed);
        return old;
    }

    int pace(int by) {
        List<int[]> changed = copy();
        for (int[] runner : changed) {
            long speed = (long) runner[0] + by;
            if (speed < 0 || speed > 40) {
                return NONE;
            }
            runner[0] = (int) speed;
        }
        if (by == 0 || changed.isEmpty()) {
            return NONE;
        }
        act(changed);
        return runners.size();
    }

    int onward(int n) {
        if (n < 1 || n > 9999) {
            return NONE;
        }
        List<int[]> changed = copy();
        for (int i = 0; i < changed.size(); i++) {
            changed.get(i)[1] = (int) place(i, Fraction.of(n, 12)).times(12).part(false);
        }
        return actIfChanged(changed);
    }

    int turn(int s) {
        if (s < 1 || s > 11 || runners.isEmpty()) {
            return NONE;
        }
        List<int[]> changed = copy();
        for (int[] runner : changed) {
            runner[1] += s;
            if (runner[1] >= 12) {
                runner[1] -= 12;
            }
        }
        act(changed);
        return runners.size();
    }

    int gate() {
        List<int[]> changed = copy();
        for (int[] runner : changed) {
            runner[1] = 0;
        }
        return actIfChanged(changed);
    }

    int mirror() {
        int greatest = 0;
        for (int[] runner : runners) {
            greatest = Math.max(greatest, runner[0]);
        }
        List<int[]> changed = copy();
        for (int[] runner : changed) {
            runner[0] = greatest - runner[0];
            runner[1] = runner[1] == 0 ? 0 : 12 - runner[1];
        }
        return actIfChanged(changed);
    }

    private int actIfChanged(List<int[]> changed) {
        int changes = 0;
        for (int i = 0; i < changed.size(); i++) {
            changes += changed.get(i)[0] != runners.get(i)[0] ? 1 : 0;
            changes += changed.get(i)[1] != runners.get(i)[1] ? 1 : 0;
        }
        if (changes == 0) {
            return NONE;
        }
        act(changed);
        return changes;
    }

    int keep(int mark) {
        if (mark < 0 || mark > 2) {
            return NONE;
        }
        marks.set(mark, copy());
        return runners.size();
    }

    int take(int mark) {
        if (mark < 0 || mark > 2 || marks.get(mark) == null) {
            return NONE;
        }
        List<int[]> taken = new ArrayList<>();
        for (int[] runner : marks.get(mark)) {
            taken.add(runner.clone());
        }
        act(taken);
        return runners.size();
    }

    boolean swap(int i, int j) {
        if (!two(i, j)) {
            return false;
        }
        List<int[]> changed = copy();
        Collections.swap(changed, i, j);
        act(changed);
        return true;
    }

    int undo() {
        if (acts.isEmpty()) {
            return NONE;
        }
        runners = acts.removeLast();
        return acts.size();
    }

    // ---- at a time

    private static boolean isTime(int p, int q) {
        return p >= 0 && p <= 9999 && q >= 1 && q <= 999;
    }

    private Fraction way(int i, Fraction time) {
        return time.times(runners.get(i)[0]).plus(Fraction.of(runners.get(i)[1], 12));
    }

    private Fraction place(int i, Fraction time) {
        return way(i, time).lessWhole();
    }

    private Fraction apart(int i, int j, Fraction time) {
        Fraction ahead = place(j, time).minus(place(i, time)).lessWhole();
        Fraction behind = Fraction.ONE.minus(ahead);
        return ahead.compareTo(behind) < 0 ? ahead : behind;
    }

    private Fraction nearest(int i, Fraction time) {
        Fraction least = Fraction.HALF;
        for (int j = 0; j < runners.size(); j++) {
            if (j != i && apart(i, j, time).compareTo(least) < 0) {
                least = apart(i, j, time);
            }
        }
        return least;
    }

    private boolean isLonely(int i, Fraction time) {
        return runners.size() == 1 || nearest(i, time).atLeast(Fraction.of(1, runners.size()));
    }

    long place(int i, int p, int q, boolean lower) {
        return has(i) && isTime(p, q) ? place(i, Fraction.of(p, q)).part(lower) : NONE;
    }

    long apart(int i, int j, int p, int q, boolean lower) {
        return two(i, j) && isTime(p, q) ? apart(i, j, Fraction.of(p, q)).part(lower) : NONE;
    }

    long nearest(int i, int p, int q, boolean lower) {
        return has(i) && isTime(p, q) ? nearest(i, Fraction.of(p, q)).part(lower) : NONE;
    }

    int lonely(int p, int q) {
        if (!isTime(p, q)) {
            return NONE;
        }
        return bits(i -> isLonely(i, Fraction.of(p, q)));
    }

    private int bits(Predicate<Integer> holds) {
        int bits = 0;
        for (int i = 0; i < runners.size(); i++) {
            if (holds.test(i)) {
                bits |= 1 << i;
            }
        }
        return bits;
    }

    long hole(int p, int q, boolean lower) {
        if (!isTime(p, q) || runners.isEmpty()) {
            return NONE;
        }
        TreeSet<Fraction> places = places(Fraction.of(p, q));
        Fraction before = places.last().minus(Fraction.ONE);
        Fraction longest = Fraction.ZERO;
        for (Fraction place : places) {
            Fraction hole = place.minus(before);
            longest = hole.compareTo(longest) > 0 ? hole : longest;
            before = place;
        }
        return longest.part(lower);
    }

    private TreeSet<Fraction> places(Fraction time) {
        TreeSet<Fraction> places = new TreeSet<>();
        for (int i = 0; i < runners.size(); i++) {
            places.add(place(i, time));
        }
        return places;
    }

    private int countAt(int i, Fraction time) {
        int there = 0;
        for (int j = 0; j < runners.size(); j++) {
            there += place(j, time).equals(place(i, time)) ? 1 : 0;
        }
        return there;
    }

    int alone(int p, int q) {
        return isTime(p, q) ? bits(i -> countAt(i, Fraction.of(p, q)) == 1) : NONE;
    }

    int crowd(int p, int q) {
        if (!isTime(p, q) || runners.isEmpty()) {
            return NONE;
        }
        int fullest = 0;
        for (int i = 0; i < runners.size(); i++) {
            fullest = Math.max(fullest, countAt(i, Fraction.of(p, q)));
        }
        return fullest;
    }

    private List<Integer> ranking(Fraction time) {
        List<Integer> order = new ArrayList<>();
        for (int i = 0; i < runners.size(); i++) {
            order.add(i);
        }
        order.sort((a, b) -> {
            int sign = place(a, time).compareTo(place(b, time));
            return sign != 0 ? sign : Integer.compare(a, b);
        });
        return order;
    }

    int ranked(int p, int q, int k) {
        return isTime(p, q) && has(k) ? ranking(Fraction.of(p, q)).get(k) : NONE;
    }

    int laps(int i, int p, int q) {
        return has(i) && isTime(p, q) ? way(i, Fraction.of(p, q)).floor().intValueExact() : NONE;
    }

    long closest(int p, int q, int what) {
        if (!isTime(p, q) || what < 0 || what > 2 || runners.size() < 2) {
            return NONE;
        }
        Fraction time = Fraction.of(p, q);
        Fraction least = Fraction.ONE;
        int pair = 0;
        for (int code = 1; code < 56; code++) {
            int i = code / 10;
            int j = code % 10;
            if (i < j && has(j) && apart(i, j, time).compareTo(least) < 0) {
                least = apart(i, j, time);
                pair = code;
            }
        }
        return what == 0 ? pair : least.part(what == 2);
    }

    long between(int i, int p, int q, boolean lower) {
        if (!has(i) || !isTime(p, q)) {
            return NONE;
        }
        Fraction least = Fraction.ONE;
        for (int j = 0; j < runners.size(); j++) {
            Fraction way = place(j, Fraction.of(p, q)).minus(place(i, Fraction.of(p, q))).lessWhole();
            if (j != i && way.compareTo(least) < 0) {
                least = way;
            }
        }
        return least.part(lower);
    }

    // Whether two are at one place at the time x by 12 g; g their speeds' difference.
    private boolean together(int i, int j, long x, long g) {
        long ahead = (runners.get(j)[0] - runners.get(i)[0]) * x + (runners.get(j)[1] - runners.get(i)[1]) * g;
        return ahead % (12 * g) == 0;
    }

    private int gap(int i, int j) {
        return Math.abs(runners.get(i)[0] - runners.get(j)[0]);
    }

    private boolean alwaysTogether(int i, int j) {
        return gap(i, j) == 0 && runners.get(i)[1] == runners.get(j)[1];
    }

    int passed(int i, int j, int p, int q) {
        if (!two(i, j) || !isTime(p, q)) {
            return NONE;
        }
        if (alwaysTogether(i, j)) {
            return -2;
        }
        int times = 0;
        long g = gap(i, j);
        for (long x = 0; x * q <= 12 * g * p && g > 0; x++) {
            times += together(i, j, x, g) ? 1 : 0;
        }
        return times;
    }

    // ---- at all times

    /** BEST and FIRST of a runner, by trying all times n by 12 e that tops can be at. */
    Fraction[] bestOf(int i) {
        long height = -1;
        long heightParts = 1;
        long time = 0;
        long timeParts = 1;
        for (long e = 1; e <= 80; e++) {
            for (long x = 0; x < 12 * e; x++) {
                long near = 6 * e;
                for (int j = 0; j < runners.size() && near * heightParts >= height * 12 * e; j++) {
                    long way = (runners.get(j)[0] - runners.get(i)[0]) * x
                        + (runners.get(j)[1] - runners.get(i)[1]) * e;
                    way = Math.floorMod(way, 12 * e);
                    if (j != i) {
                        near = Math.min(near, Math.min(way, 12 * e - way));
                    }
                }
                long more = near * heightParts - height * 12 * e;
                if (more > 0 || more == 0 && x * timeParts < time * 12 * e) {
                    height = near;
                    heightParts = 12 * e;
                    time = x;
                    timeParts = 12 * e;
                }
            }
        }
        return new Fraction[] {Fraction.of(height, heightParts), Fraction.of(time, timeParts)};
    }

    private static long tellBest(Fraction[] best, int what) {
        return best[what / 2].part(what % 2 == 1);
    }

    long best(int i, int what) {
        return has(i) && what >= 0 && what <= 3 ? tellBest(bestOf(i), what) : NONE;
    }

    int tight(int i) {
        if (!has(i)) {
            return NONE;
        }
        if (runners.size() == 1) {
            return 2;
        }
        return 1 + bestOf(i)[0].compareTo(Fraction.of(1, runners.size()));
    }

    int never() {
        return bits(i -> tight(i) == 0);
    }

    int tights() {
        return bits(i -> bestOf(i)[0].equals(Fraction.of(1, runners.size())));
    }

    /** All times of 0 to 1 at which one's nearest can go above or below a height. */
    private TreeSet<Fraction> turns(int i, Fraction height) {
        TreeSet<Fraction> turns = new TreeSet<>();
        turns.add(Fraction.ZERO);
        turns.add(Fraction.ONE);
        for (int j = 0; j < runners.size(); j++) {
            int faster = runners.get(j)[0] - runners.get(i)[0];
            Fraction lead = Fraction.of(runners.get(j)[1] - runners.get(i)[1], 12);
            for (int n = -43; n <= 43 && faster != 0; n++) {
                for (int side = -1; side <= 1; side += 2) {
                    Fraction time = height.times(side).plus(Fraction.of(n, 1)).minus(lead).over(faster);
                    if (time.atLeast(Fraction.ZERO) && Fraction.ONE.atLeast(time)) {
                        turns.add(time);
                    }
                }
            }
        }
        return turns;
    }

    private Fraction lonelyHeight() {
        return Fraction.of(1, runners.size());
    }

    private List<Fraction[]> stretchesOf(int i) {
        List<Fraction[]> found = new ArrayList<>();
        Fraction before = null;
        for (Fraction time : turns(i, lonelyHeight())) {
            boolean onward = before != null && isLonely(i, before.plus(time).over(2));
            if (isLonely(i, time)) {
                if (onward) {
                    found.get(found.size() - 1)[1] = time;
                } else {
                    found.add(new Fraction[] {time, time});
                }
            }
            before = time;
        }
        return found;
    }

    private Fraction length(TreeSet<Fraction> turns, Predicate<Fraction> holds) {
        Fraction sum = Fraction.ZERO;
        Fraction before = Fraction.ZERO;
        for (Fraction time : turns) {
            if (holds.test(before.plus(time).over(2))) {
                sum = sum.plus(time.minus(before));
            }
            before = time;
        }
        return sum;
    }

    int stretches(int i) {
        return has(i) ? stretchesOf(i).size() : NONE;
    }

    long stretch(int i, int k, boolean to, boolean lower) {
        if (!has(i) || k < 0) {
            return NONE;
        }
        List<Fraction[]> found = stretchesOf(i);
        return k < found.size() ? found.get(k)[to ? 1 : 0].part(lower) : -2;
    }

    long hours(int i, boolean lower) {
        return has(i) ? hoursOf(i).part(lower) : NONE;
    }

    private Fraction hoursOf(int i) {
        return length(turns(i, lonelyHeight()), t -> isLonely(i, t));
    }

    long next(int i, int p, int q, boolean lower) {
        if (!has(i) || !isTime(p, q)) {
            return NONE;
        }
        Fraction from = Fraction.of(p, q);
        TreeSet<Fraction> times = new TreeSet<>();
        times.add(from);
        for (Fraction turn : turns(i, lonelyHeight())) {
            for (int n = 0; n <= 2; n++) {
                Fraction time = turn.plus(Fraction.of(p / q + n, 1));
                if (time.atLeast(from)) {
                    times.add(time);
                }
            }
        }
        for (Fraction time : times) {
            if (isLonely(i, time)) {
                return time.part(lower);
            }
        }
        return -2;
    }

    long hoursBy(int i, int u, int w, boolean lower) {
        if (!has(i) || w < 1 || w > 12 || u < 0 || u > w) {
            return NONE;
        }
        Fraction height = Fraction.of(u, w);
        return length(turns(i, height), t -> nearest(i, t).atLeast(height)).part(lower);
    }

    long both(int i, int j, boolean lower) {
        if (!two(i, j)) {
            return NONE;
        }
        TreeSet<Fraction> turns = turns(i, lonelyHeight());
        turns.addAll(turns(j, lonelyHeight()));
        return length(turns, t -> isLonely(i, t) && isLonely(j, t)).part(lower);
    }

    long someone(boolean lower) {
        if (runners.isEmpty()) {
            return NONE;
        }
        TreeSet<Fraction> turns = new TreeSet<>();
        for (int i = 0; i < runners.size(); i++) {
            turns.addAll(turns(i, lonelyHeight()));
        }
        return length(turns, t -> bits(i -> isLonely(i, t)) != 0).part(lower);
    }

    int firsts(int k) {
        if (!has(k)) {
            return NONE;
        }
        List<Integer> order = new ArrayList<>();
        List<Fraction> times = new ArrayList<>();
        for (int i = 0; i < runners.size(); i++) {
            order.add(i);
            List<Fraction[]> found = stretchesOf(i);
            times.add(found.isEmpty() ? Fraction.of(2, 1) : found.get(0)[0]);
        }
        // A list's sort keeps like ones in their order.
        order.sort((a, b) -> times.get(a).compareTo(times.get(b)));
        return order.get(k);
    }

    long meetsNext(int i, int j, int p, int q, boolean lower) {
        if (!two(i, j) || !isTime(p, q)) {
            return NONE;
        }
        long g = gap(i, j);
        if (g == 0) {
            return alwaysTogether(i, j) ? Fraction.of(p, q).part(lower) : -2;
        }
        long x = 12 * g * p / q;
        while (x * q < 12 * g * p || !together(i, j, x, g)) {
            x++;
        }
        return Fraction.of(x, 12 * g).part(lower);
    }

    private List<Fraction> meetingsOf(int i, int j) {
        List<Fraction> times = new ArrayList<>();
        long g = gap(i, j);
        for (long x = 0; x < 12 * g; x++) {
            if (together(i, j, x, g)) {
                times.add(Fraction.of(x, 12 * g));
            }
        }
        return times;
    }

    int meets(int i, int j) {
        if (!two(i, j)) {
            return NONE;
        }
        return alwaysTogether(i, j) ? -2 : meetingsOf(i, j).size();
    }

    long meeting(int i, int j, int k, boolean lower) {
        if (!two(i, j) || k < 0) {
            return NONE;
        }
        List<Fraction> times = meetingsOf(i, j);
        return k < times.size() ? times.get(k).part(lower) : -2;
    }

    int meetings() {
        int sum = 0;
        for (int i = 0; i < runners.size(); i++) {
            for (int j = 0; j < i; j++) {
                sum += meetingsOf(i, j).size();
            }
        }
        return sum;
    }

    int gather() {
        if (runners.isEmpty()) {
            return NONE;
        }
        TreeSet<Fraction> times = new TreeSet<>();
        boolean always = true;
        for (int j = 1; j < runners.size(); j++) {
            always &= alwaysTogether(0, j);
            times.addAll(meetingsOf(0, j));
        }
        if (always) {
            return -2;
        }
        int gatherings = 0;
        for (Fraction time : times) {
            gatherings += places(time).size() == 1 ? 1 : 0;
        }
        return gatherings;
    }

    long period(boolean lower) {
        if (runners.isEmpty()) {
            return NONE;
        }
        for (int n = 40; n >= 1; n--) {
            boolean back = true;
            boolean moves = false;
            for (int[] runner : runners) {
                back &= runner[0] % n == 0;
                moves |= runner[0] != 0;
            }
            if (!moves) {
                return -2;
            }
            if (back) {
                return Fraction.of(1, n).part(lower);
            }
        }
        throw new IllegalStateException();
    }

    // ---- on a grid, modulo a number

    long grid(int i, int m, int what) {
        if (!has(i) || m < 1 || m > 999 || what < 0 || what > 2) {
            return NONE;
        }
        Fraction greatest = Fraction.of(-1, 1);
        int least = 0;
        for (int a = 0; a < m; a++) {
            Fraction near = nearest(i, Fraction.of(a, m));
            if (near.compareTo(greatest) > 0) {
                greatest = near;
                least = a;
            }
        }
        return what == 2 ? least : greatest.part(what == 1);
    }

    int dense(int i, int m) {
        if (!has(i) || m < 1 || m > 999) {
            return NONE;
        }
        int times = 0;
        for (int a = 0; a < m; a++) {
            times += isLonely(i, Fraction.of(a, m)) ? 1 : 0;
        }
        return times;
    }

    int leastGrid(int i) {
        if (!has(i)) {
            return NONE;
        }
        if (runners.size() == 1) {
            return 1;
        }
        for (int m = 1; m < 1000; m++) {
            for (int a = 0; a < m; a++) {
                boolean lonely = true;
                for (int j = 0; j < runners.size() && lonely; j++) {
                    long way = (runners.get(j)[0] - runners.get(i)[0]) * 12L * a
                        + (runners.get(j)[1] - runners.get(i)[1]) * m;
                    way = Math.floorMod(way, 12L * m);
                    lonely = j == i || Math.min(way, 12L * m - way) * runners.size() >= 12L * m;
                }
                if (lonely) {
                    return m;
                }
            }
        }
        return -2;
    }

    int divided(int i) {
        if (!has(i)) {
            return NONE;
        }
        for (int n = 40; n >= 1; n--) {
            boolean all = true;
            boolean alike = true;
            for (int[] runner : runners) {
                all &= (runner[0] - runners.get(i)[0]) % n == 0;
                alike &= runner[0] == runners.get(i)[0];
            }
            if (alike) {
                return 0;
            }
            if (all) {
                return n;
            }
        }
        throw new IllegalStateException();
    }

    int mates(int i) {
        return has(i) ? bits(j -> j != i && gap(i, j) == 0) : NONE;
    }

    int rests(int i, int m) {
        if (!has(i) || m < 1 || m > 30) {
            return NONE;
        }
        int bits = 0;
        for (int j = 0; j < runners.size(); j++) {
            if (j != i) {
                bits |= 1 << (runners.get(j)[0] - runners.get(i)[0] + 60 * m) % m;
            }
        }
        return bits;
    }

    int prime() {
        for (int n = 2; n <= 97; n++) {
            boolean isPrime = true;
            for (int d = 2; d < n; d++) {
                isPrime &= n % d != 0;
            }
            TreeSet<Integer> rests = new TreeSet<>();
            for (int[] runner : runners) {
                rests.add(runner[0] % n);
            }
            if (isPrime && rests.size() == runners.size()) {
                return n;
            }
        }
        return -2;
    }

    // ---- were

    private Model with(int j, int which, int value) {
        Model other = new Model();
        other.runners = copy();
        other.runners.get(j)[which] = value;
        return other;
    }

    long were(int i, int j, int v, int what) {
        if (!has(i) || !has(j) || v < 0 || v > 40 || what < 0 || what > 3) {
            return NONE;
        }
        return with(j, 0, v).best(i, what);
    }

    private int kindestOf(int i, int j, int which, int most) {
        if (!two(i, j)) {
            return NONE;
        }
        Fraction greatest = Fraction.of(-1, 1);
        int kindest = NONE;
        for (int v = 0; v <= most; v++) {
            Fraction best = with(j, which, v).bestOf(i)[0];
            if (best.compareTo(greatest) > 0) {
                greatest = best;
                kindest = v;
            }
        }
        return kindest;
    }

    int kindest(int i, int j) {
        return kindestOf(i, j, 0, 40);
    }

    int kindestStart(int i, int j) {
        return kindestOf(i, j, 1, 11);
    }

    int harsh(int i, int j) {
        if (!two(i, j)) {
            return NONE;
        }
        int speeds = 0;
        for (int v = 0; v <= 40; v++) {
            speeds += with(j, 0, v).tight(i) == 0 ? 1 : 0;
        }
        return speeds;
    }

    long without(int i, int j, int what) {
        if (!two(i, j) || what < 0 || what > 3) {
            return NONE;
        }
        Model other = new Model();
        other.runners = copy();
        int[] runner = other.runners.get(i);
        other.runners.remove(j);
        for (int n = 0; n < other.runners.size(); n++) {
            if (other.runners.get(n) == runner) {
                return other.best(n, what);
            }
        }
        throw new IllegalStateException();
    }

    int loneliest() {
        Fraction least = Fraction.ONE;
        int loneliest = NONE;
        for (int i = 0; i < runners.size(); i++) {
            Fraction best = bestOf(i)[0];
            if (best.compareTo(least) < 0) {
                least = best;
                loneliest = i;
            }
        }
        return loneliest;
    }

    // ---- texts

    private static int tell(String text, int i) {
        if (i < -1) {
            return NONE;
        }
        return i == -1 ? text.length() : i < text.length() ? text.charAt(i) : -2;
    }

    int spell(int i) {
        StringBuilder text = new StringBuilder();
        for (int[] runner : runners) {
            text.append("run ").append(runner[0]);
            text.append(runner[1] == 0 ? "" : " from " + runner[1]).append(';');
        }
        return tell(text.toString(), i);
    }

    int report(int runner, int i) {
        if (!has(runner)) {
            return NONE;
        }
        StringBuilder text = new StringBuilder();
        for (Fraction[] stretch : stretchesOf(runner)) {
            text.append(stretch[0]).append(" to ").append(stretch[1]).append(';');
        }
        return tell(text.append("hours ").append(hoursOf(runner)).append(';').toString(), i);
    }

    int tells(int p, int q, int i) {
        if (!isTime(p, q)) {
            return NONE;
        }
        StringBuilder text = new StringBuilder();
        for (int runner : ranking(Fraction.of(p, q))) {
            text.append(runner).append(" at ").append(place(runner, Fraction.of(p, q))).append(';');
        }
        return tell(text.toString(), i);
    }

    int count(int what) {
        int speeds = 0;
        int starts = 0;
        int greatest = 0;
        TreeSet<Integer> unlike = new TreeSet<>();
        for (int[] runner : runners) {
            speeds += runner[0];
            starts += runner[1];
            greatest = Math.max(greatest, runner[0]);
            unlike.add(runner[0]);
        }
        int[] first = {runners.size(), speeds, starts, acts.size(), tape.size(), greatest, unlike.size()};
        if (what >= 0 && what < 7) {
            return first[what];
        }
        if (what >= 7 && what < 10) {
            return marks.get(what - 7) == null ? 0 : marks.get(what - 7).size();
        }
        return NONE;
    }

    int of(int i, int what) {
        return has(i) && (what == 0 || what == 1) ? runners.get(i)[what] : NONE;
    }
}
