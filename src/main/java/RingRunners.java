/** Runners on a ring; ../shared/DOC.md tells what each call answers. */
public final class RingRunners {
    public static final int NONE = -1;

    // The document tells all of these by the one number -2.
    private static final int ALWAYS = -2;
    private static final int NEVER = -2;
    private static final int NOT_SO_MANY = -2;

    private static final int MOST_RUNNERS = 6;
    private static final int MOST_SPEED = 40;
    private static final int TWELFTHS = 12;
    private static final int MOST_P = 9999;
    private static final int MOST_Q = 999;
    private static final int MARKS = 3;
    private static final int[] PRIMES = {2, 3, 5, 7, 11, 13, 17, 19, 23, 29, 31, 37, 41, 43, 47, 53, 59, 61, 67, 71,
        73, 79, 83, 89, 97};

    private final Field now = new Field();
    private final Field trial = new Field();
    private final Field[] marks = {new Field(), new Field(), new Field()};
    private final boolean[] marked = new boolean[MARKS];
    private final History history = new History();
    private final Reader reader = new Reader();
    private final Tape tape = reader.tape();
    private final Instant instant = new Instant();
    private final Others others = new Others();
    private final Peak peak = new Peak();
    private final Vigil vigil = new Vigil();
    private final Writer writer = new Writer();

    public RingRunners() {
    }

    // ---- told

    public int feed(int a, int b, int c, int d, int e) {
        if (!tape.hasRoomFor(20)) {
            return NONE;
        }
        tape.addWord(a);
        tape.addWord(b);
        tape.addWord(c);
        tape.addWord(d);
        tape.addWord(e);
        return tape.size();
    }

    public int back(int n) {
        if (n < 0 || n > tape.size()) {
            return NONE;
        }
        tape.shorten(n);
        return tape.size();
    }

    public int text() {
        int fault = reader.readInto(trial);
        tape.shorten(tape.size());
        if (fault != NONE) {
            return -4 - fault;
        }
        now.become(trial);
        history.clear();
        for (int m = 0; m < MARKS; m++) {
            marked[m] = false;
        }
        return now.size();
    }

    // ---- acts

    public int run(int speed, int start) {
        if (!isSpeed(speed) || !isStart(start) || now.isFull()) {
            return NONE;
        }
        history.push(now);
        now.add(speed, start);
        return now.size() - 1;
    }

    public boolean drop(int i) {
        if (!now.has(i)) {
            return false;
        }
        history.push(now);
        now.remove(i);
        return true;
    }

    public int speed(int i, int v) {
        if (!now.has(i) || !isSpeed(v) || now.speedAt(i) == v) {
            return NONE;
        }
        int old = now.speedAt(i);
        history.push(now);
        now.setSpeed(i, v);
        return old;
    }

    public int start(int i, int s) {
        if (!now.has(i) || !isStart(s) || now.startAt(i) == s) {
            return NONE;
        }
        int old = now.startAt(i);
        history.push(now);
        now.setStart(i, s);
        return old;
    }

    public int pace(int by) {
        if (by == 0 || by < -MOST_SPEED || by > MOST_SPEED || now.size() == 0) {
            return NONE;
        }
        trial.become(now);
        for (int r = 0; r < now.size(); r++) {
            int changed = now.speedAt(r) + by;
            if (!isSpeed(changed)) {
                return NONE;
            }
            trial.setSpeed(r, changed);
        }
        settleTrial();
        return now.size();
    }

    public int onward(int n) {
        if (n < 1 || n > MOST_P) {
            return NONE;
        }
        trial.become(now);
        for (int r = 0; r < now.size(); r++) {
            trial.setStart(r, (now.startAt(r) + now.speedAt(r) * n) % TWELFTHS);
        }
        return settleChanges();
    }

    public int turn(int s) {
        if (s < 1 || !isStart(s) || now.size() == 0) {
            return NONE;
        }
        trial.become(now);
        for (int r = 0; r < now.size(); r++) {
            trial.setStart(r, (now.startAt(r) + s) % TWELFTHS);
        }
        settleTrial();
        return now.size();
    }

    public int gate() {
        trial.become(now);
        for (int r = 0; r < now.size(); r++) {
            trial.setStart(r, 0);
        }
        return settleChanges();
    }

    public int mirror() {
        int greatest = now.greatestSpeed();
        trial.become(now);
        for (int r = 0; r < now.size(); r++) {
            trial.setSpeed(r, greatest - now.speedAt(r));
            trial.setStart(r, (TWELFTHS - now.startAt(r)) % TWELFTHS);
        }
        return settleChanges();
    }

    public int keep(int mark) {
        if (!isMark(mark)) {
            return NONE;
        }
        marks[mark].become(now);
        marked[mark] = true;
        return now.size();
    }

    public int take(int mark) {
        if (!isMark(mark) || !marked[mark]) {
            return NONE;
        }
        trial.become(marks[mark]);
        settleTrial();
        return now.size();
    }

    public boolean swap(int i, int j) {
        if (!now.hasBoth(i, j)) {
            return false;
        }
        history.push(now);
        now.exchange(i, j);
        return true;
    }

    public int undo() {
        if (history.size() == 0) {
            return NONE;
        }
        history.pop(now);
        return history.size();
    }

    private void settleTrial() {
        history.push(now);
        now.become(trial);
    }

    private int settleChanges() {
        int changes = now.unlikeNumbers(trial);
        if (changes == 0) {
            return NONE;
        }
        settleTrial();
        return changes;
    }

    // ---- at a time

    public int place(int i, int p, int q, boolean lower) {
        if (!now.has(i) || !isTime(p, q)) {
            return NONE;
        }
        instant.see(now, p, q);
        return (int) partOf(instant.placeAt(i), instant.whole(), lower);
    }

    public int apart(int i, int j, int p, int q, boolean lower) {
        if (!now.hasBoth(i, j) || !isTime(p, q)) {
            return NONE;
        }
        instant.see(now, p, q);
        return (int) partOf(instant.apartOf(i, j), instant.whole(), lower);
    }

    public int nearest(int i, int p, int q, boolean lower) {
        if (!now.has(i) || !isTime(p, q)) {
            return NONE;
        }
        instant.see(now, p, q);
        return (int) partOf(instant.nearestOf(i), instant.whole(), lower);
    }

    public int lonely(int p, int q) {
        if (!isTime(p, q)) {
            return NONE;
        }
        instant.see(now, p, q);
        int bits = 0;
        for (int r = 0; r < now.size(); r++) {
            if (isLonely(instant.nearestOf(r), instant.whole(), now.size())) {
                bits |= 1 << r;
            }
        }
        return bits;
    }

    public int hole(int p, int q, boolean lower) {
        if (!isTime(p, q) || now.size() == 0) {
            return NONE;
        }
        instant.see(now, p, q);
        return (int) partOf(instant.longestHole(), instant.whole(), lower);
    }

    public int alone(int p, int q) {
        if (!isTime(p, q)) {
            return NONE;
        }
        instant.see(now, p, q);
        int bits = 0;
        for (int r = 0; r < now.size(); r++) {
            if (instant.atPlaceOf(r) == 1) {
                bits |= 1 << r;
            }
        }
        return bits;
    }

    public int crowd(int p, int q) {
        if (!isTime(p, q) || now.size() == 0) {
            return NONE;
        }
        instant.see(now, p, q);
        int fullest = 0;
        for (int r = 0; r < now.size(); r++) {
            fullest = Math.max(fullest, instant.atPlaceOf(r));
        }
        return fullest;
    }

    public int ranked(int p, int q, int k) {
        if (!isTime(p, q) || !now.has(k)) {
            return NONE;
        }
        instant.see(now, p, q);
        return instant.atRank(k);
    }

    public int laps(int i, int p, int q) {
        if (!now.has(i) || !isTime(p, q)) {
            return NONE;
        }
        return (now.startAt(i) * q + TWELFTHS * now.speedAt(i) * p) / (TWELFTHS * q);
    }

    public int closest(int p, int q, int what) {
        if (!isTime(p, q) || what < 0 || what > 2 || now.size() < 2) {
            return NONE;
        }
        instant.see(now, p, q);
        int pair = instant.closestPair();
        if (what == 0) {
            return pair;
        }
        return (int) partOf(instant.apartOf(pair / 10, pair % 10), instant.whole(), what == 2);
    }

    public int between(int i, int p, int q, boolean lower) {
        if (!now.has(i) || !isTime(p, q)) {
            return NONE;
        }
        instant.see(now, p, q);
        return (int) partOf(instant.wayToNext(i, 0), instant.whole(), lower);
    }

    public int passed(int i, int j, int p, int q) {
        if (!now.hasBoth(i, j) || !isTime(p, q)) {
            return NONE;
        }
        others.seeOne(now, i, j);
        int gap = others.gapAt(0);
        int lead = others.leadAt(0);
        if (gap == 0) {
            return lead == 0 ? ALWAYS : 0;
        }
        int wholes = (TWELFTHS * gap * p + lead * q) / (TWELFTHS * q);
        return lead == 0 ? wholes + 1 : wholes;
    }

    // ---- at all times

    public int best(int i, int what) {
        if (!now.has(i) || !isBestPart(what)) {
            return NONE;
        }
        peak.seek(now, i);
        return peak.tell(what);
    }

    public int tight(int i) {
        if (!now.has(i)) {
            return NONE;
        }
        peak.seek(now, i);
        if (now.size() == 1) {
            return 2;
        }
        return 1 + peak.comparedToLonely(now.size());
    }

    public int never() {
        int bits = 0;
        for (int r = 0; r < now.size(); r++) {
            if (tight(r) == 0) {
                bits |= 1 << r;
            }
        }
        return bits;
    }

    public int stretches(int i) {
        if (!now.has(i)) {
            return NONE;
        }
        watchOne(i);
        return vigil.spans().size();
    }

    public long stretch(int i, int k, boolean to, boolean lower) {
        if (!now.has(i) || k < 0) {
            return NONE;
        }
        watchOne(i);
        Spans spans = vigil.spans();
        if (k >= spans.size()) {
            return NOT_SO_MANY;
        }
        return partOf(to ? spans.toAt(k) : spans.fromAt(k), vigil.scale(), lower);
    }

    public long hours(int i, boolean lower) {
        if (!now.has(i)) {
            return NONE;
        }
        watchOne(i);
        return partOf(vigil.spans().length(), vigil.scale(), lower);
    }

    public long next(int i, int p, int q, boolean lower) {
        if (!now.has(i) || !isTime(p, q)) {
            return NONE;
        }
        watchOne(i);
        Spans spans = vigil.spans();
        if (spans.size() == 0) {
            return NEVER;
        }
        long scale = vigil.scale();
        long wholes = p / q;
        long rest = p % q;
        for (int k = 0; k < spans.size(); k++) {
            if (spans.toAt(k) * q >= rest * scale) {
                boolean already = spans.fromAt(k) * q <= rest * scale;
                return already ? partOf(p, q, lower) : partOf(wholes * scale + spans.fromAt(k), scale, lower);
            }
        }
        return partOf((wholes + 1) * scale + spans.fromAt(0), scale, lower);
    }

    public long hoursBy(int i, int u, int w, boolean lower) {
        if (!now.has(i) || w < 1 || w > 12 || u < 0 || u > w) {
            return NONE;
        }
        vigil.measureFor(now, 1 << i, w);
        vigil.watch(now, i, u, w);
        return partOf(vigil.spans().length(), vigil.scale(), lower);
    }

    public long both(int i, int j, boolean lower) {
        if (!now.hasBoth(i, j)) {
            return NONE;
        }
        return partOf(vigil.lengthOfBoth(now, i, j), vigil.scale(), lower);
    }

    public long someone(boolean lower) {
        if (now.size() == 0) {
            return NONE;
        }
        return partOf(vigil.lengthOfAny(now), vigil.scale(), lower);
    }

    public int firsts(int k) {
        if (!now.has(k)) {
            return NONE;
        }
        vigil.findFirstTimes(now);
        return vigil.atRank(now, k);
    }

    public int tights() {
        int bits = 0;
        // A runner alone is apart one half, never the whole that 1 by K is then.
        for (int r = 0; r < now.size(); r++) {
            if (tight(r) == 1) {
                bits |= 1 << r;
            }
        }
        return bits;
    }

    public long meetsNext(int i, int j, int p, int q, boolean lower) {
        if (!now.hasBoth(i, j) || !isTime(p, q)) {
            return NONE;
        }
        others.seeOne(now, i, j);
        int gap = others.gapAt(0);
        int lead = others.leadAt(0);
        if (gap == 0) {
            return lead == 0 ? partOf(p, q, lower) : NEVER;
        }
        int turns = -Math.floorDiv(-(TWELFTHS * gap * p + lead * q), TWELFTHS * q);
        return partOf(TWELFTHS * turns - lead, TWELFTHS * gap, lower);
    }

    public int meets(int i, int j) {
        if (!now.hasBoth(i, j)) {
            return NONE;
        }
        others.seeOne(now, i, j);
        return others.gapAt(0) == 0 && others.leadAt(0) == 0 ? ALWAYS : others.gapAt(0);
    }

    public int meeting(int i, int j, int k, boolean lower) {
        if (!now.hasBoth(i, j) || k < 0) {
            return NONE;
        }
        others.seeOne(now, i, j);
        int gap = others.gapAt(0);
        if (k >= gap) {
            return NOT_SO_MANY;
        }
        return (int) partOf(others.firstMeeting(0) + TWELFTHS * k, TWELFTHS * gap, lower);
    }

    public int meetings() {
        int sum = 0;
        for (int a = 0; a < now.size(); a++) {
            for (int b = a + 1; b < now.size(); b++) {
                sum += Math.abs(now.speedAt(a) - now.speedAt(b));
            }
        }
        return sum;
    }

    public int gather() {
        if (now.size() == 0) {
            return NONE;
        }
        others.see(now, 0);
        return others.gatherings();
    }

    public int period(boolean lower) {
        if (now.size() == 0) {
            return NONE;
        }
        long divisor = 0;
        for (int r = 0; r < now.size(); r++) {
            divisor = commonDivisor(divisor, now.speedAt(r));
        }
        return divisor == 0 ? ALWAYS : (int) partOf(1, divisor, lower);
    }

    // ---- on a grid, modulo a number

    public int grid(int i, int m, int what) {
        if (!now.has(i) || !isGrid(m) || what < 0 || what > 2) {
            return NONE;
        }
        others.see(now, i);
        int greatest = -1;
        int least = 0;
        for (int a = 0; a < m; a++) {
            int near = others.nearestBy(TWELFTHS * a, m);
            if (near > greatest) {
                greatest = near;
                least = a;
            }
        }
        return what == 2 ? least : (int) partOf(greatest, TWELFTHS * m, what == 1);
    }

    public int dense(int i, int m) {
        if (!now.has(i) || !isGrid(m)) {
            return NONE;
        }
        others.see(now, i);
        int times = 0;
        for (int a = 0; a < m; a++) {
            if (isLonely(others.nearestBy(TWELFTHS * a, m), TWELFTHS * m, now.size())) {
                times++;
            }
        }
        return times;
    }

    public int leastGrid(int i) {
        if (!now.has(i)) {
            return NONE;
        }
        watchOne(i);
        for (int m = 1; m <= MOST_Q; m++) {
            if (vigil.hasGridTime(m)) {
                return m;
            }
        }
        return NEVER;
    }

    public int divided(int i) {
        if (!now.has(i)) {
            return NONE;
        }
        long divisor = 0;
        for (int r = 0; r < now.size(); r++) {
            divisor = commonDivisor(divisor, Math.abs(now.speedAt(r) - now.speedAt(i)));
        }
        return (int) divisor;
    }

    public int mates(int i) {
        if (!now.has(i)) {
            return NONE;
        }
        int bits = 0;
        for (int r = 0; r < now.size(); r++) {
            if (r != i && now.speedAt(r) == now.speedAt(i)) {
                bits |= 1 << r;
            }
        }
        return bits;
    }

    public int rests(int i, int m) {
        if (!now.has(i) || m < 1 || m > 30) {
            return NONE;
        }
        int bits = 0;
        for (int r = 0; r < now.size(); r++) {
            if (r != i) {
                bits |= 1 << Math.floorMod(now.speedAt(r) - now.speedAt(i), m);
            }
        }
        return bits;
    }

    public int prime() {
        for (int prime : PRIMES) {
            if (now.speedsUnlikeModulo(prime)) {
                return prime;
            }
        }
        return NEVER;
    }

    // ---- were

    public int were(int i, int j, int v, int what) {
        if (!now.has(i) || !now.has(j) || !isSpeed(v) || !isBestPart(what)) {
            return NONE;
        }
        trial.become(now);
        trial.setSpeed(j, v);
        peak.seek(trial, i);
        return peak.tell(what);
    }

    public int kindest(int i, int j) {
        return now.hasBoth(i, j) ? kindestNumber(i, j, MOST_SPEED, false) : NONE;
    }

    public int kindestStart(int i, int j) {
        return now.hasBoth(i, j) ? kindestNumber(i, j, TWELFTHS - 1, true) : NONE;
    }

    public int harsh(int i, int j) {
        if (!now.hasBoth(i, j)) {
            return NONE;
        }
        trial.become(now);
        int speeds = 0;
        for (int v = 0; v <= MOST_SPEED; v++) {
            trial.setSpeed(j, v);
            peak.seek(trial, i);
            if (peak.comparedToLonely(trial.size()) < 0) {
                speeds++;
            }
        }
        return speeds;
    }

    public int without(int i, int j, int what) {
        if (!now.hasBoth(i, j) || !isBestPart(what)) {
            return NONE;
        }
        trial.become(now);
        trial.remove(j);
        peak.seek(trial, j < i ? i - 1 : i);
        return peak.tell(what);
    }

    public int loneliest() {
        if (now.size() == 0) {
            return NONE;
        }
        peak.forgetWorse();
        int loneliest = 0;
        for (int r = 0; r < now.size(); r++) {
            peak.seek(now, r);
            if (peak.isWorse()) {
                loneliest = r;
            }
        }
        return loneliest;
    }

    private int kindestNumber(int i, int j, int most, boolean isStart) {
        trial.become(now);
        peak.forgetBetter();
        int kindest = 0;
        for (int v = 0; v <= most; v++) {
            if (isStart) {
                trial.setStart(j, v);
            } else {
                trial.setSpeed(j, v);
            }
            peak.seek(trial, i);
            if (peak.isBetter()) {
                kindest = v;
            }
        }
        return kindest;
    }

    // ---- texts

    public int spell(int i) {
        if (i < NONE) {
            return NONE;
        }
        writer.begin(i);
        for (int r = 0; r < now.size(); r++) {
            writer.put("run ");
            writer.putNumber(now.speedAt(r));
            if (now.startAt(r) != 0) {
                writer.put(" from ");
                writer.putNumber(now.startAt(r));
            }
            writer.put(";");
        }
        return writer.answer();
    }

    public int report(int runner, int i) {
        if (!now.has(runner) || i < NONE) {
            return NONE;
        }
        watchOne(runner);
        Spans spans = vigil.spans();
        long scale = vigil.scale();
        writer.begin(i);
        for (int k = 0; k < spans.size(); k++) {
            writer.putPart(spans.fromAt(k), scale);
            writer.put(" to ");
            writer.putPart(spans.toAt(k), scale);
            writer.put(";");
        }
        writer.put("hours ");
        writer.putPart(spans.length(), scale);
        writer.put(";");
        return writer.answer();
    }

    public int tells(int p, int q, int i) {
        if (!isTime(p, q) || i < NONE) {
            return NONE;
        }
        instant.see(now, p, q);
        writer.begin(i);
        for (int k = 0; k < now.size(); k++) {
            int runner = instant.atRank(k);
            writer.putNumber(runner);
            writer.put(" at ");
            writer.putPart(instant.placeAt(runner), instant.whole());
            writer.put(";");
        }
        return writer.answer();
    }

    public int count(int what) {
        switch (what) {
            case 0:
                return now.size();
            case 1:
                return now.sumOfSpeeds();
            case 2:
                return now.sumOfStarts();
            case 3:
                return history.size();
            case 4:
                return tape.size();
            case 5:
                return now.greatestSpeed();
            case 6:
                return now.unlikeSpeeds();
            default:
                return countKept(what - 7);
        }
    }

    public int of(int i, int what) {
        if (!now.has(i) || what < 0 || what > 1) {
            return NONE;
        }
        return what == 0 ? now.speedAt(i) : now.startAt(i);
    }

    private int countKept(int mark) {
        if (!isMark(mark)) {
            return NONE;
        }
        return marked[mark] ? marks[mark].size() : 0;
    }

    private void watchOne(int i) {
        vigil.measureFor(now, 1 << i, now.size());
        vigil.watchLonely(now, i);
    }

    private static boolean isSpeed(int v) {
        return v >= 0 && v <= MOST_SPEED;
    }

    private static boolean isStart(int s) {
        return s >= 0 && s < TWELFTHS;
    }

    private static boolean isMark(int mark) {
        return mark >= 0 && mark < MARKS;
    }

    private static boolean isTime(int p, int q) {
        return p >= 0 && p <= MOST_P && q >= 1 && q <= MOST_Q;
    }

    private static boolean isGrid(int m) {
        return m >= 1 && m <= MOST_Q;
    }

    private static boolean isBestPart(int what) {
        return what >= 0 && what <= 3;
    }

    // A runner without others is apart one half alone, yet lonely.
    private static boolean isLonely(int near, int whole, int runners) {
        return runners == 1 || near * runners >= whole;
    }

    private static long commonDivisor(long a, long b) {
        long greater = a;
        long lesser = b;
        // Euclid takes fewer than 100 steps for any two longs.
        for (int n = 0; n < 200 && lesser != 0; n++) {
            long rest = greater % lesser;
            greater = lesser;
            lesser = rest;
        }
        return greater;
    }

    private static long commonMultiple(long a, long b) {
        long divisor = commonDivisor(a, b);
        return divisor == 0 ? 0 : a / divisor * b;
    }

    private static long partOf(long upper, long lower, boolean tellsLower) {
        long divisor = commonDivisor(upper, lower);
        if (divisor == 0) {
            return NONE;
        }
        return (tellsLower ? lower : upper) / divisor;
    }

    /** All runners, as they are or as they are kept. */
    private static final class Field {
        private final int[] speeds = new int[MOST_RUNNERS];
        private final int[] starts = new int[MOST_RUNNERS];
        private int size = 0;

        int size() {
            return size;
        }

        boolean isFull() {
            return size >= MOST_RUNNERS;
        }

        boolean has(int i) {
            return i >= 0 && i < size && i < MOST_RUNNERS;
        }

        boolean hasBoth(int i, int j) {
            return has(i) && has(j) && i != j;
        }

        int speedAt(int i) {
            return i >= 0 && i < size && i < MOST_RUNNERS ? speeds[i] : 0;
        }

        int startAt(int i) {
            return i >= 0 && i < size && i < MOST_RUNNERS ? starts[i] : 0;
        }

        void setSpeed(int i, int v) {
            if (has(i)) {
                speeds[i] = v;
            }
        }

        void setStart(int i, int s) {
            if (has(i)) {
                starts[i] = s;
            }
        }

        void clear() {
            size = 0;
        }

        void add(int speed, int start) {
            if (!isFull()) {
                size++;
                setSpeed(size - 1, speed);
                setStart(size - 1, start);
            }
        }

        void remove(int i) {
            if (has(i)) {
                for (int r = i; r + 1 < size; r++) {
                    setSpeed(r, speedAt(r + 1));
                    setStart(r, startAt(r + 1));
                }
                size--;
            }
        }

        void exchange(int i, int j) {
            int speed = speedAt(i);
            int start = startAt(i);
            setSpeed(i, speedAt(j));
            setStart(i, startAt(j));
            setSpeed(j, speed);
            setStart(j, start);
        }

        void become(Field other) {
            size = other.size;
            for (int r = 0; r < size; r++) {
                setSpeed(r, other.speedAt(r));
                setStart(r, other.startAt(r));
            }
        }

        // How many speeds and starts are unlike those of a field of the same size.
        int unlikeNumbers(Field other) {
            int unlike = 0;
            for (int r = 0; r < size; r++) {
                unlike += speedAt(r) != other.speedAt(r) ? 1 : 0;
                unlike += startAt(r) != other.startAt(r) ? 1 : 0;
            }
            return unlike;
        }

        int greatestSpeed() {
            int greatest = 0;
            for (int r = 0; r < size; r++) {
                greatest = Math.max(greatest, speedAt(r));
            }
            return greatest;
        }

        int sumOfSpeeds() {
            int sum = 0;
            for (int r = 0; r < size; r++) {
                sum += speedAt(r);
            }
            return sum;
        }

        int sumOfStarts() {
            int sum = 0;
            for (int r = 0; r < size; r++) {
                sum += startAt(r);
            }
            return sum;
        }

        int unlikeSpeeds() {
            // Speeds are 0 to 40, so that a long has a bit for each.
            long seen = 0;
            for (int r = 0; r < size; r++) {
                seen |= 1L << speedAt(r);
            }
            return Long.bitCount(seen);
        }

        boolean speedsUnlikeModulo(int m) {
            for (int a = 0; a < size; a++) {
                for (int b = a + 1; b < size; b++) {
                    if (m == 0 || (speedAt(a) - speedAt(b)) % m == 0) {
                        return false;
                    }
                }
            }
            return true;
        }
    }

    /** How things were before each of the latest acts: a ring of rooms, of which the oldest is written over. */
    private static final class History {
        private static final int MOST = 12;

        private final Field[] earlier = {new Field(), new Field(), new Field(), new Field(), new Field(), new Field(),
            new Field(), new Field(), new Field(), new Field(), new Field(), new Field()};
        private int size = 0;
        private int top = 0;

        int size() {
            return size;
        }

        void clear() {
            size = 0;
        }

        void push(Field field) {
            if (top >= 0 && top < MOST) {
                earlier[top].become(field);
            }
            top = (top + 1) % MOST;
            size = Math.min(size + 1, MOST);
        }

        void pop(Field field) {
            if (size > 0) {
                size--;
                top = (top + MOST - 1) % MOST;
                if (top >= 0 && top < MOST) {
                    field.become(earlier[top]);
                }
            }
        }
    }

    /** The bytes that have been fed and not yet read. */
    private static final class Tape {
        private static final int MOST = 200;

        private final int[] bytes = new int[MOST];
        private int size = 0;

        int size() {
            return size;
        }

        boolean hasRoomFor(int more) {
            return size + more <= MOST;
        }

        void addWord(int word) {
            for (int shift = 24; shift >= 0; shift -= 8) {
                if (size >= 0 && size < MOST) {
                    bytes[size] = (word >> shift) & 255;
                    size++;
                }
            }
        }

        void shorten(int by) {
            size = Math.max(0, size - by);
        }

        // NONE behind the end.
        int byteAt(int at) {
            return at >= 0 && at < size && at < MOST ? bytes[at] : NONE;
        }
    }

    /** Holds a tape and reads it as a text. */
    private static final class Reader {
        private final Tape tape = new Tape();
        private int at = 0;
        private int fault = NONE;

        Tape tape() {
            return tape;
        }

        // The first byte that can't stand there, NONE if all can.
        int readInto(Field field) {
            at = 0;
            fault = NONE;
            field.clear();
            skipBlanks();
            // One round more than there may be runners: it finds the seventh.
            for (int n = 0; n <= MOST_RUNNERS && fault == NONE && at < tape.size(); n++) {
                readRun(field);
                skipBlanks();
            }
            return fault;
        }

        private void readRun(Field field) {
            if (!isWord("run") || field.isFull()) {
                fault = at;
                return;
            }
            at += 3;
            int speed = readNumber(MOST_SPEED);
            int start = fault == NONE ? readStart() : 0;
            if (fault != NONE) {
                return;
            }
            skipBlanks();
            if (tape.byteAt(at) != ';') {
                fault = at;
                return;
            }
            at++;
            field.add(speed, start);
        }

        private int readStart() {
            boolean parted = skipBlanks();
            if (!isLetter(tape.byteAt(at))) {
                return 0;
            }
            if (!parted || !isWord("from")) {
                fault = at;
                return 0;
            }
            at += 4;
            return readNumber(TWELFTHS - 1);
        }

        private int readNumber(int most) {
            boolean parted = skipBlanks();
            int digits = digitsHere();
            int value = 0;
            for (int n = 0; n < digits && n < 2; n++) {
                value = 10 * value + tape.byteAt(at + n) - '0';
            }
            if (!parted || digits < 1 || digits > 2 || value > most) {
                fault = at;
            }
            at += digits;
            return value;
        }

        private boolean skipBlanks() {
            int from = at;
            while (at < tape.size() && (tape.byteAt(at) == 32 || tape.byteAt(at) == 10)) {
                at++;
            }
            return at > from;
        }

        private int digitsHere() {
            int digits = 0;
            while (at + digits < tape.size() && isDigit(tape.byteAt(at + digits))) {
                digits++;
            }
            return digits;
        }

        private boolean isWord(String word) {
            for (int n = 0; n < word.length(); n++) {
                if (tape.byteAt(at + n) != word.charAt(n)) {
                    return false;
                }
            }
            return !isLetter(tape.byteAt(at + word.length()));
        }

        private static boolean isLetter(int sign) {
            return sign >= 'a' && sign <= 'z';
        }

        private static boolean isDigit(int sign) {
            return sign >= '0' && sign <= '9';
        }
    }

    /** Where all are at one time, in parts of which the ring has 12 times the time's lower part. */
    private static final class Instant {
        private final int[] places = new int[MOST_RUNNERS];
        private int size = 0;
        private int whole = TWELFTHS;

        void see(Field field, int p, int q) {
            size = 0;
            whole = Math.max(1, TWELFTHS * q);
            for (int r = 0; r < field.size() && r < MOST_RUNNERS; r++) {
                places[r] = Math.floorMod(field.startAt(r) * q + TWELFTHS * field.speedAt(r) * p, whole);
                size = r + 1;
            }
        }

        int whole() {
            return whole;
        }

        int placeAt(int i) {
            return i >= 0 && i < size && i < MOST_RUNNERS ? places[i] : 0;
        }

        private int wayFrom(int i, int j) {
            int way = placeAt(j) - placeAt(i);
            return way < 0 ? way + whole : way;
        }

        int apartOf(int i, int j) {
            int way = wayFrom(i, j);
            return Math.min(way, whole - way);
        }

        int nearestOf(int i) {
            int least = whole / 2;
            for (int r = 0; r < size; r++) {
                if (r != i) {
                    least = Math.min(least, apartOf(i, r));
                }
            }
            return least;
        }

        // The way to the next other one that is so far off at least; the whole ring, if there is none.
        int wayToNext(int i, int atLeast) {
            int least = whole;
            for (int r = 0; r < size; r++) {
                int way = wayFrom(i, r);
                if (r != i && way >= atLeast && way < least) {
                    least = way;
                }
            }
            return least;
        }

        int longestHole() {
            int longest = 0;
            for (int r = 0; r < size; r++) {
                longest = Math.max(longest, wayToNext(r, 1));
            }
            return longest;
        }

        int atPlaceOf(int i) {
            int there = 0;
            for (int r = 0; r < size; r++) {
                there += placeAt(r) == placeAt(i) ? 1 : 0;
            }
            return there;
        }

        int atRank(int k) {
            for (int r = 0; r < size; r++) {
                if (rankOf(r) == k) {
                    return r;
                }
            }
            return NONE;
        }

        private int rankOf(int i) {
            int before = 0;
            for (int r = 0; r < size; r++) {
                boolean sooner = placeAt(r) < placeAt(i) || placeAt(r) == placeAt(i) && r < i;
                before += sooner ? 1 : 0;
            }
            return before;
        }

        // 10 times the lesser number and the other one.
        int closestPair() {
            int pair = 1;
            int least = whole;
            for (int a = 0; a < size; a++) {
                for (int b = a + 1; b < size; b++) {
                    if (apartOf(a, b) < least) {
                        least = apartOf(a, b);
                        pair = 10 * a + b;
                    }
                }
            }
            return pair;
        }
    }

    /**
     * The others as one runner sees them: by how much each is faster (the gap), how many twelfths it is ahead at the
     * time 0 (the lead). A slower one is told as its mirror image, as apart is the same to both sides.
     */
    private static final class Others {
        private final int[] gaps = new int[MOST_RUNNERS];
        private final int[] leads = new int[MOST_RUNNERS];
        private int size = 0;

        void see(Field field, int i) {
            size = 0;
            for (int r = 0; r < field.size(); r++) {
                if (r != i) {
                    add(field, i, r);
                }
            }
        }

        void seeOne(Field field, int i, int j) {
            size = 0;
            add(field, i, j);
        }

        private void add(Field field, int i, int r) {
            if (size < 0 || size >= MOST_RUNNERS) {
                return;
            }
            int gap = field.speedAt(r) - field.speedAt(i);
            int lead = field.startAt(r) - field.startAt(i);
            gaps[size] = Math.abs(gap);
            leads[size] = Math.floorMod(gap < 0 ? -lead : lead, TWELFTHS);
            size++;
        }

        int size() {
            return size;
        }

        int gapAt(int r) {
            return r >= 0 && r < size && r < MOST_RUNNERS ? gaps[r] : 0;
        }

        int leadAt(int r) {
            return r >= 0 && r < size && r < MOST_RUNNERS ? leads[r] : 0;
        }

        // The upper part, by 12 times the gap, of the first time at which that one is met.
        int firstMeeting(int r) {
            return Math.floorMod(-leadAt(r), TWELFTHS);
        }

        // How far off that one is at the time x by 12 e, in parts of which the ring has 12 e.
        private int apartBy(int r, int x, int e) {
            int whole = TWELFTHS * e;
            if (whole < 1) {
                return 0;
            }
            int way = Math.floorMod(gapAt(r) * x + leadAt(r) * e, whole);
            return Math.min(way, whole - way);
        }

        // As apartBy, for the nearest one.
        int nearestBy(int x, int e) {
            return nearestUnlessBelow(x, e, 0);
        }

        // As nearestBy; where the nearest one is nearer than enough, some number below that.
        int nearestUnlessBelow(int x, int e, int enough) {
            int least = TWELFTHS * e / 2;
            for (int r = 0; r < size && least >= enough; r++) {
                least = Math.min(least, apartBy(r, x, e));
            }
            return least;
        }

        // How many times of 0 up to 1 all are at the place of this one.
        int gatherings() {
            int mover = NONE;
            boolean together = true;
            for (int r = 0; r < size; r++) {
                if (gapAt(r) != 0) {
                    mover = r;
                } else if (leadAt(r) != 0) {
                    together = false;
                }
            }
            if (!together) {
                return 0;
            }
            return mover == NONE ? ALWAYS : gatheringsAmongMeetingsOf(mover);
        }

        private int gatheringsAmongMeetingsOf(int mover) {
            int gap = gapAt(mover);
            int times = 0;
            for (int n = 0; n < gap; n++) {
                times += allHere(firstMeeting(mover) + TWELFTHS * n, gap) ? 1 : 0;
            }
            return times;
        }

        private boolean allHere(int x, int e) {
            for (int r = 0; r < size; r++) {
                if (apartBy(r, x, e) != 0) {
                    return false;
                }
            }
            return true;
        }
    }

    /**
     * The greatest nearest of one runner and the first time of it. The nearest one is least of tents over the times;
     * it has its tops only where two tents cross or one has its own top: there some sum or difference of two of
     * their numbers is whole.
     */
    private static final class Peak {
        private final Others others = new Others();
        private int height = 0;
        private int heightParts = 1;
        private int time = 0;
        private int timeParts = 1;
        private int keptHeight = 0;
        private int keptParts = 1;

        void seek(Field field, int i) {
            others.see(field, i);
            height = others.nearestBy(0, 1);
            heightParts = TWELFTHS;
            time = 0;
            timeParts = TWELFTHS;
            for (int a = 0; a < others.size(); a++) {
                for (int b = 0; b <= a; b++) {
                    int gap = others.gapAt(a) + others.gapAt(b);
                    seekAmong(gap, others.leadAt(a) + others.leadAt(b));
                }
                for (int b = 0; b < a; b++) {
                    int gap = others.gapAt(a) - others.gapAt(b);
                    int lead = others.leadAt(a) - others.leadAt(b);
                    seekAmong(Math.abs(gap), gap < 0 ? -lead : lead);
                }
            }
        }

        // Looks at all times of 0 up to 1 at which gap times the time and lead twelfths are whole.
        private void seekAmong(int gap, int lead) {
            int parts = TWELFTHS * gap;
            int x = Math.floorMod(-lead, TWELFTHS);
            for (int n = 0; n < gap && heightParts > 0; n++) {
                // Rounded down: whatever is less can't be as high.
                int near = others.nearestUnlessBelow(x, gap, height * parts / heightParts);
                int more = near * heightParts - height * parts;
                if (more > 0 || more == 0 && x * timeParts < time * parts) {
                    height = near;
                    heightParts = parts;
                    time = x;
                    timeParts = parts;
                }
                x += TWELFTHS;
            }
        }

        int tell(int what) {
            boolean lower = what % 2 == 1;
            return (int) (what < 2 ? partOf(height, heightParts, lower) : partOf(time, timeParts, lower));
        }

        // -1, 0, 1: less than 1 by that many runners, as much, more.
        int comparedToLonely(int runners) {
            return Integer.compare(height * runners, heightParts);
        }

        void forgetBetter() {
            keptHeight = -1;
            keptParts = 1;
        }

        void forgetWorse() {
            keptHeight = 1;
            keptParts = 1;
        }

        // Whether it is higher than all since forgetBetter().
        boolean isBetter() {
            boolean better = height * keptParts > keptHeight * heightParts;
            if (better) {
                keepHeight();
            }
            return better;
        }

        // Whether it is lower than all since forgetWorse().
        boolean isWorse() {
            boolean worse = height * keptParts < keptHeight * heightParts;
            if (worse) {
                keepHeight();
            }
            return worse;
        }

        private void keepHeight() {
            keptHeight = height;
            keptParts = heightParts;
        }
    }

    /** Spans of time in order, none touching another, each told by its ends in parts of a scale. */
    private static final class Spans {
        private final long[] froms;
        private final long[] tos;
        private int size = 0;

        Spans(int room) {
            froms = new long[Math.max(0, room)];
            tos = new long[Math.max(0, room)];
        }

        int size() {
            return size;
        }

        long fromAt(int k) {
            return k >= 0 && k < size && k < froms.length ? froms[k] : 0;
        }

        long toAt(int k) {
            return k >= 0 && k < size && k < tos.length ? tos[k] : 0;
        }

        void clear() {
            size = 0;
        }

        void add(long from, long to) {
            if (from <= to && size >= 0 && size < froms.length && size < tos.length) {
                froms[size] = from;
                tos[size] = to;
                size++;
            }
        }

        // Behind the others, or grown together with the last one.
        private void join(long from, long to) {
            int last = size - 1;
            if (last >= 0 && last < tos.length && from <= tos[last]) {
                tos[last] = Math.max(tos[last], to);
            } else {
                add(from, to);
            }
        }

        void becomeCommon(Spans one, Spans two) {
            clear();
            int a = 0;
            int b = 0;
            while (a < one.size() && b < two.size()) {
                add(Math.max(one.fromAt(a), two.fromAt(b)), Math.min(one.toAt(a), two.toAt(b)));
                if (one.toAt(a) < two.toAt(b)) {
                    a++;
                } else {
                    b++;
                }
            }
        }

        void becomeUnion(Spans one, Spans two) {
            clear();
            int a = 0;
            int b = 0;
            while (a < one.size() || b < two.size()) {
                if (b >= two.size() || a < one.size() && one.fromAt(a) <= two.fromAt(b)) {
                    join(one.fromAt(a), one.toAt(a));
                    a++;
                } else {
                    join(two.fromAt(b), two.toAt(b));
                    b++;
                }
            }
        }

        long length() {
            long sum = 0;
            for (int k = 0; k < size; k++) {
                sum += toAt(k) - fromAt(k);
            }
            return sum;
        }
    }

    /**
     * Finds when runners are lonely, of 0 to 1, in parts of a scale by which every end of a stretch is a whole
     * number. The scale is 132 times the least common multiple of 1 to 40 at most: a long holds it.
     */
    private static final class Vigil {
        // Each other one brings 41 spans at most, so that one runner has fewer than 5 times 41, six fewer than 1,230.
        private static final int ROOM_OF_ONE = 210;
        private static final int ROOM_OF_ALL = 1230;

        private final Others others = new Others();
        private final Spans single = new Spans(ROOM_OF_ONE);
        private Spans spans = new Spans(ROOM_OF_ONE);
        private Spans spareSpans = new Spans(ROOM_OF_ONE);
        private Spans all = new Spans(ROOM_OF_ALL);
        private Spans spareAll = new Spans(ROOM_OF_ALL);
        private final long[] firstTimes = new long[MOST_RUNNERS];
        private long scale = 1;
        private int parts = 1;

        Spans spans() {
            return spans;
        }

        long scale() {
            return scale;
        }

        // Sets the scale for the runners of these bits, and for ways apart in parts of which the ring has w.
        void measureFor(Field field, int bits, int w) {
            long gaps = 1;
            for (int a = 0; a < field.size(); a++) {
                if ((bits >> a & 1) == 1) {
                    gaps = commonGaps(field, a, gaps);
                }
            }
            parts = (int) commonMultiple(TWELFTHS, Math.max(1, w));
            scale = parts * gaps;
        }

        private long commonGaps(Field field, int i, long gaps) {
            long common = gaps;
            for (int r = 0; r < field.size(); r++) {
                int gap = Math.abs(field.speedAt(r) - field.speedAt(i));
                if (gap != 0) {
                    common = commonMultiple(common, gap);
                }
            }
            return common;
        }

        void watchLonely(Field field, int i) {
            // Without others it is lonely however near.
            watch(field, i, field.size() == 1 ? 0 : 1, field.size());
        }

        // Finds the spans in which the nearest of a runner is u by w or more.
        void watch(Field field, int i, int u, int w) {
            others.see(field, i);
            spans.clear();
            if (w < 1 || 2 * u > w) {
                return;
            }
            spans.add(0, scale);
            for (int r = 0; r < others.size() && u > 0; r++) {
                watchSingle(others.gapAt(r), others.leadAt(r), u, w);
                spareSpans.becomeCommon(spans, single);
                Spans old = spans;
                spans = spareSpans;
                spareSpans = old;
            }
        }

        private void watchSingle(int gap, int lead, int u, int w) {
            single.clear();
            if (w < 1) {
                return;
            }
            int off = parts / w * u;
            int ahead = parts / TWELFTHS * lead;
            if (gap < 1 || parts < 1) {
                boolean apart = Math.min(ahead, parts - ahead) >= off;
                single.add(0, apart ? scale : NONE);
                return;
            }
            long step = scale / ((long) parts * gap);
            for (int n = 0; n <= gap; n++) {
                long from = (n * parts + off - ahead) * step;
                long to = (n * parts + parts - off - ahead) * step;
                single.add(Math.max(0, from), Math.min(scale, to));
            }
        }

        long lengthOfBoth(Field field, int i, int j) {
            measureFor(field, 1 << i | 1 << j, field.size());
            all.clear();
            watchLonely(field, i);
            gatherSpans();
            watchLonely(field, j);
            spareAll.becomeCommon(all, spans);
            return spareAll.length();
        }

        long lengthOfAny(Field field) {
            measureFor(field, (1 << MOST_RUNNERS) - 1, field.size());
            all.clear();
            for (int r = 0; r < field.size(); r++) {
                watchLonely(field, r);
                gatherSpans();
            }
            return all.length();
        }

        private void gatherSpans() {
            spareAll.becomeUnion(all, spans);
            Spans old = all;
            all = spareAll;
            spareAll = old;
        }

        void findFirstTimes(Field field) {
            measureFor(field, (1 << MOST_RUNNERS) - 1, field.size());
            for (int r = 0; r < field.size() && r < MOST_RUNNERS; r++) {
                watchLonely(field, r);
                // Who never is lonely comes behind every time of 0 to 1.
                firstTimes[r] = spans.size() == 0 ? scale + 1 : spans.fromAt(0);
            }
        }

        // The k-th runner by the first times that have been found.
        int atRank(Field field, int k) {
            for (int i = 0; i < field.size(); i++) {
                int before = 0;
                for (int r = 0; r < field.size(); r++) {
                    before += isSooner(r, i) ? 1 : 0;
                }
                if (before == k) {
                    return i;
                }
            }
            return NONE;
        }

        private boolean isSooner(int r, int i) {
            if (r < 0 || r >= MOST_RUNNERS || i < 0 || i >= MOST_RUNNERS) {
                return false;
            }
            return firstTimes[r] < firstTimes[i] || firstTimes[r] == firstTimes[i] && r < i;
        }

        // Whether some number by m is within a span; of one runner's scale alone, as others grow too great.
        boolean hasGridTime(int m) {
            if (scale < 1) {
                return false;
            }
            for (int k = 0; k < spans.size(); k++) {
                long a = Math.floorDiv(spans.toAt(k) * m, scale);
                if (a * scale >= spans.fromAt(k) * m) {
                    return true;
                }
            }
            return false;
        }
    }

    /** Writes a text byte by byte, of which it keeps the length and the one byte that was asked for. */
    private static final class Writer {
        private int asked = NONE;
        private int found = NOT_SO_MANY;
        private int length = 0;

        // The byte's number, or NONE for the length.
        void begin(int byteAsked) {
            asked = byteAsked;
            found = NOT_SO_MANY;
            length = 0;
        }

        int answer() {
            return asked == NONE ? length : found;
        }

        private void putSign(int sign) {
            if (length == asked) {
                found = sign;
            }
            length++;
        }

        void put(String words) {
            for (int n = 0; n < words.length(); n++) {
                putSign(words.charAt(n));
            }
        }

        void putNumber(long number) {
            long unit = 1;
            for (int n = 0; n < 18 && number / unit >= 10; n++) {
                unit *= 10;
            }
            for (int n = 0; n < 19 && unit > 0; n++) {
                putSign((int) ('0' + number / unit % 10));
                unit /= 10;
            }
        }

        void putPart(long upper, long lower) {
            putNumber(partOf(upper, lower, false));
            put(" by ");
            putNumber(partOf(upper, lower, true));
        }
    }
}
