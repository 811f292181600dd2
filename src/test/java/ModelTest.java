import java.util.NoSuchElementException;

/** Runs of calls by chance, each answered by ShapeReader and by the model: the answers must be one. */
public final class ModelTest {
    private static final int RUNS = Integer.getInteger("runs", 4000);
    private static final int CALLS = 40;

    private final Texts texts;
    private final long seed;
    private final ShapeReader x = new ShapeReader();
    private final Model m = new Model();
    private final StringBuilder log = new StringBuilder();
    private static final int[] KINDS = new int[20];
    private static final int[] FAULTS = new int[16];
    private static final int[] MISSES = new int[5];
    private static final int[] READS = new int[5];
    private static int good = 0;

    private ModelTest(long seed) {
        this.seed = seed;
        texts = new Texts(seed);
    }

    public static void main(String[] args) {
        long first = Long.getLong("seed", 1);
        for (long seed = first; seed < first + RUNS && Probe.wrong < 10; seed++) {
            new ModelTest(seed).run();
        }
        System.out.println("faults of plans " + tally(FAULTS, 0, 8) + ", of values " + tally(FAULTS, 8, 16)
                + ", failures " + tally(KINDS, 11, 17) + ", misses " + tally(MISSES, 1, 5)
                + ", reads (nodes, none, -2, -3) " + tally(READS, 0, 4) + ", plans " + good);
        Probe.finish("ModelTest");
    }

    private static String tally(int[] counts, int from, int to) {
        return java.util.Arrays.toString(java.util.Arrays.copyOfRange(counts, from, to));
    }

    private void due(String call, long want, long got) {
        if (want != got) {
            System.out.println("seed " + seed + log);
        }
        Probe.due("seed " + seed + ": " + call, want, got);
    }

    private interface Call {
        long answer();
    }

    /** Both answer alike, or both throw what the document names. */
    private long both(String call, Call want, Call got) {
        long wanted = answerOf(want);
        long gotten = answerOf(got);
        due(call, wanted, gotten);
        return wanted;
    }

    private static final long THROWN = Long.MIN_VALUE + 12345;

    private static long answerOf(Call call) {
        try {
            return call.answer();
        } catch (NoSuchElementException e) {
            return THROWN;
        }
    }

    private void run() {
        plans();
        for (int k = 0; k < CALLS; k++) {
            step();
        }
    }

    private int some(int below) {
        return texts.chance(3) ? texts.random.nextInt(12) - 3 : texts.random.nextInt(Math.max(1, below));
    }

    /** A message that was written, for the most part. */
    private int written() {
        int message = some(4);
        for (int k = 0; k < 4 && m.message(message, 0) < 0 && texts.chance(95); k++) {
            message = Math.floorMod(message + 1, 4);
        }
        return message;
    }

    private void feed(String text) {
        for (int i = 0; i < text.length(); i += 20) {
            int[] v = new int[5];
            for (int k = 0; k < 20; k++) {
                v[k / 4] = v[k / 4] << 8 | (i + k < text.length() ? text.charAt(i + k) : ' ') & 255;
            }
            both("feed", () -> m.feed(v), () -> x.feed(v[0], v[1], v[2], v[3], v[4]));
        }
    }

    private void emptyTape() {
        both("write to empty the tape", () -> m.plans(0), () -> x.plans(0));
    }

    private void plans() {
        String told = texts.plans();
        String text = texts.chance(25) ? texts.spoilt(told) : told;
        log.append("\nplans ").append(text);
        emptyTape();
        feed(text);
        int n = text.length();
        long answer = both("plans", () -> m.plans(n), () -> x.plans(n));
        if (answer < -1) {
            FAULTS[(int) (-2 - answer) & 7]++;
        } else {
            good++;
        }
        allOfPlans();
    }

    private void allOfPlans() {
        for (int what = -1; what <= 6; what++) {
            int w = what;
            both("count " + w, () -> m.count(w), () -> x.count(w));
        }
        for (int p = -1; p <= m.plans.size(); p++) {
            for (int r = -1; r <= 6; r++) {
                for (int what = -1; what <= 2; what++) {
                    int[] a = {p, r, what};
                    both("record", () -> m.record(a[0], a[1], a[2]), () -> x.record(a[0], a[1], a[2]));
                }
                for (int f = -1; f <= 8; f++) {
                    for (int what = -1; what <= 6; what++) {
                        int[] a = {p, r, f, what};
                        both("field", () -> m.field(a[0], a[1], a[2], a[3]), () -> x.field(a[0], a[1], a[2], a[3]));
                    }
                }
            }
        }
        for (int w = -1; w <= m.plans.size(); w++) {
            for (int r = -1; r <= m.plans.size(); r++) {
                pair(w, r);
            }
            for (int what = -1; what <= 2; what++) {
                int[] a = {w, what};
                both("readers", () -> m.readers(a[0], a[1]), () -> x.readers(a[0], a[1]));
            }
        }
    }

    private void pair(int w, int r) {
        both("matches " + w + " " + r, () -> m.matches(w, r), () -> x.matches(w, r));
        int many = (int) both("misses " + w + " " + r, () -> m.miss(w, r, -1, 0), () -> x.miss(w, r, -1, 0));
        for (int i = -2; i <= many; i++) {
            int at = i;
            int kind = (int) both("miss " + w + " " + r, () -> m.miss(w, r, at, 0), () -> x.miss(w, r, at, 0));
            if (i >= 0 && kind > 0) {
                MISSES[kind]++;
            }
            both("miss steps", () -> m.miss(w, r, at, 2), () -> x.miss(w, r, at, 2));
            int steps = (int) both("miss steps", () -> m.miss(w, r, at, 1), () -> x.miss(w, r, at, 1));
            for (int k = -1; k <= steps; k++) {
                int step = k;
                both("miss step", () -> m.missStep(w, r, at, step), () -> x.missStep(w, r, at, step));
            }
        }
    }

    private void step() {
        int n = texts.random.nextInt(100);
        if (n < 3) {
            plans();
        } else if (n < 28) {
            write();
        } else if (n < 45) {
            spoil();
        } else if (n < 48) {
            cut();
        } else if (n < 80) {
            read(false);
        } else if (n < 92) {
            read(true);
        } else {
            alike();
        }
        for (int what = 0; what <= 5; what++) {
            int w = what;
            both("count " + w, () -> m.count(w), () -> x.count(w));
        }
        for (int i = -2; i <= 4; i++) {
            int at = i;
            both("kept", () -> m.kept(at), () -> x.kept(at));
        }
    }

    private void write() {
        int message = some(4);
        int plan = some(m.plans.size());
        if (m.plans.isEmpty()) {
            return;
        }
        Model.Type root = new Model.Type();
        root.sort = 7;
        root.record = m.plans.get(Math.floorMod(plan, m.plans.size())).get(0);
        int deepest = texts.chance(10) ? 28 + texts.random.nextInt(5) : 1 + texts.random.nextInt(5);
        String told = texts.value(root, 0, deepest);
        String text = texts.chance(15) || told.length() > 1000 ? texts.spoilt(told) : told;
        log.append("\nwrite ").append(message).append(' ').append(plan).append(' ').append(text);
        emptyTape();
        feed(text);
        int n = text.length() + (texts.chance(2) ? -1 : 0);
        long answer = both("write", () -> m.write(message, plan, n), () -> x.write(message, plan, n));
        if (answer < -1) {
            FAULTS[8 + ((int) (-2 - answer) & 7)]++;
        }
        bytes(message);
    }

    private void bytes(int message) {
        both("message", () -> m.message(message, 0), () -> x.message(message, 0));
        both("message", () -> m.message(message, 1), () -> x.message(message, 1));
        both("message", () -> m.message(message, 2), () -> x.message(message, 2));
        int many = m.message(message, 0);
        for (int i = -1; i <= many; i++) {
            int at = i;
            both("byte " + i, () -> m.byteAt(message, at), () -> x.byteAt(message, at));
        }
    }

    private void spoil() {
        int message = written();
        int many = Math.max(1, m.message(message, 0));
        int i = some(many);
        int mask = texts.chance(50) ? 1 << texts.random.nextInt(8) : texts.random.nextInt();
        log.append("\nspoil ").append(message).append(' ').append(i).append(' ').append(mask);
        both("spoil", () -> m.spoil(message, i, mask), () -> x.spoil(message, i, mask));
    }

    private void cut() {
        int message = written();
        int n = some(Math.max(1, m.message(message, 0) + 1));
        log.append("\ncut ").append(message).append(' ').append(n);
        both("cut", () -> m.cut(message, n), () -> x.cut(message, n));
    }

    private void read(boolean convert) {
        int message = written();
        int plan = some(m.plans.size());
        int to = some(4);
        log.append(convert ? "\nconvert " : "\nread ").append(message).append(' ').append(plan).append(' ').append(to);
        long answer;
        if (convert) {
            answer = both("convert", () -> m.convert(message, plan, to), () -> x.convert(message, plan, to));
            bytes(to);
        } else {
            answer = both("read", () -> m.read(message, plan), () -> x.read(message, plan));
        }
        READS[answer >= 0 ? 0 : (int) -answer]++;
        failures();
        for (int i = -1; i <= m.nodes.size(); i++) {
            node(i);
        }
    }

    private void failures() {
        for (int what = -1; what <= 3; what++) {
            int w = what;
            both("failure " + what, () -> m.failure(w), () -> x.failure(w));
        }
        if (m.failure(0) > 0) {
            KINDS[m.failure(0)]++;
        }
        for (int k = -1; k <= m.failure(1); k++) {
            int at = k;
            both("failureStep " + k, () -> m.failureStep(at), () -> x.failureStep(at));
        }
    }

    private void node(int i) {
        for (int what = -1; what <= 5; what++) {
            int w = what;
            both("node " + i + " " + what, () -> m.node(i, w), () -> x.node(i, w));
        }
        both("value " + i, () -> m.value(i), () -> x.value(i));
        for (int k = -1; k <= 13; k++) {
            int at = k;
            both("letter " + i + " " + k, () -> m.letter(i, at), () -> x.letter(i, at));
        }
    }

    private void alike() {
        int one = written();
        int other = written();
        int plan = some(m.plans.size());
        log.append("\nalike ").append(one).append(' ').append(other).append(' ').append(plan);
        both("alike", () -> m.alike(one, other, plan), () -> x.alike(one, other, plan));
        failures();
        for (int i = -1; i <= m.nodes.size(); i++) {
            node(i);
        }
    }
}
