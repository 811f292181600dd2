import java.util.ArrayList;
import java.util.List;
import java.util.NoSuchElementException;
import java.util.function.Supplier;
import java.util.function.ToLongFunction;

/** All that can be asked of an object without changing it, to see what a call leaves as it was. */
final class Watch {
    /** What a call answers that throws a NoSuchElementException. */
    static final long THROWS = Long.MIN_VALUE + 77;
    /** An object is good for 512 calls: its making takes some of them. */
    private static final int ASKS_OF_ONE = 350;

    private static final String PLANS = "plan;record a x int,y text else \"hi\",z list b else [];record b v either none or flag;"
            + "plan;record a y text,x real,w either long or b else 5;record b v flag;"
            + "plan;record c x flag;";

    private record Ask(String name, ToLongFunction<ShapeReader> call) {
    }

    private Watch() {
    }

    /** Three plans, three messages, the nodes of one of them, three pairs kept, twenty bytes on the tape. */
    static ShapeReader nodes() {
        ShapeReader r = messages();
        r.read(3, 2);
        r.read(1, 1);
        r.read(0, 1);
        Probe.feed(r, "plan;record a p int;");
        return r;
    }

    /** As nodes(), but the latest read failed, with a path of four steps. */
    static ShapeReader failed() {
        ShapeReader r = messages();
        r.read(3, 1);
        r.read(0, 1);
        r.spoil(3, 6, 2);
        r.read(3, 1);
        Probe.feed(r, "plan;record a p int;");
        return r;
    }

    /** As nodes(), with a tape that takes no more. */
    static ShapeReader fullTape() {
        ShapeReader r = nodes();
        for (int k = 0; k < 48; k++) {
            Probe.feed(r, " ".repeat(20));
        }
        Probe.feed(r, "record b q none; \n \n");
        return r;
    }

    private static ShapeReader messages() {
        Probe p = new Probe();
        Probe.due("plans", 3, p.plans(PLANS));
        p.writeDue(0, 0, "{x -3}", 5);
        p.writeDue(1, 1, "{x 1.5,y \"abc\"}", 14);
        p.writeDue(3, 0, "{x 70,z [{v none},{v yes}]}", 9);
        return p.reader;
    }

    private static long answer(ToLongFunction<ShapeReader> call, ShapeReader r) {
        try {
            return call.applyAsLong(r);
        } catch (NoSuchElementException e) {
            return THROWS;
        }
    }

    /** The call is answered so, and nothing at all is another one behind it. */
    static void unchanged(String what, Supplier<ShapeReader> make, ToLongFunction<ShapeReader> call, long want) {
        unchangedBut(what, make, call, want, "");
    }

    /** As unchanged(), but for the asks whose names begin so. */
    static void unchangedBut(String what, Supplier<ShapeReader> make, ToLongFunction<ShapeReader> call, long want,
            String... but) {
        List<Ask> asks = asks(make.get());
        for (int from = 0; from < asks.size(); from += ASKS_OF_ONE) {
            ShapeReader still = make.get();
            ShapeReader called = make.get();
            Probe.due(what, want, answer(call, called));
            for (Ask ask : asks.subList(from, Math.min(asks.size(), from + ASKS_OF_ONE))) {
                long is = answer(ask.call, called);
                long was = answer(ask.call, still);
                if (!isAmong(ask.name, but)) {
                    Probe.due(what + ", then " + ask.name, was, is);
                }
            }
        }
    }

    private static boolean isAmong(String name, String[] but) {
        for (String start : but) {
            if (!start.isEmpty() && name.startsWith(start)) {
                return true;
            }
        }
        return false;
    }

    private static List<Ask> asks(ShapeReader like) {
        List<Ask> asks = new ArrayList<>();
        int plans = like.count(0);
        for (int what = 0; what <= 5; what++) {
            int w = what;
            asks.add(new Ask("count(" + w + ")", r -> r.count(w)));
        }
        for (int i = NONE; i <= 4; i++) {
            int k = i;
            asks.add(new Ask("kept(" + k + ")", r -> r.kept(k)));
        }
        askMessages(asks, like);
        askFailure(asks, like);
        askNodes(asks, like.count(2));
        for (int plan = 0; plan < plans; plan++) {
            askPlan(asks, like, plan);
            for (int reader = 0; reader < plans; reader++) {
                askPair(asks, like, plan, reader);
            }
        }
        asks.add(new Ask("plans() of the tape", r -> r.plans(r.count(5))));
        return asks;
    }

    private static final int NONE = ShapeReader.NONE;

    private static void askMessages(List<Ask> asks, ShapeReader like) {
        for (int message = 0; message < 4; message++) {
            int m = message;
            asks.add(new Ask("message(" + m + ", 0)", r -> r.message(m, 0)));
            asks.add(new Ask("message(" + m + ", 1)", r -> r.message(m, 1)));
            int size = like.message(m, 0);
            for (int i = 0; i <= size; i++) {
                int at = i;
                asks.add(new Ask("byteAt(" + m + ", " + at + ")", r -> r.byteAt(m, at)));
            }
        }
    }

    private static void askFailure(List<Ask> asks, ShapeReader like) {
        for (int what = 0; what <= 2; what++) {
            int w = what;
            asks.add(new Ask("failure(" + w + ")", r -> r.failure(w)));
        }
        for (int k = 0; k <= like.failure(1) + 1; k++) {
            int at = k;
            asks.add(new Ask("failureStep(" + at + ")", r -> r.failureStep(at)));
        }
    }

    private static void askNodes(List<Ask> asks, int nodes) {
        for (int i = 0; i <= nodes; i++) {
            int n = i;
            for (int what = 0; what <= 4; what++) {
                int w = what;
                asks.add(new Ask("node(" + n + ", " + w + ")", r -> r.node(n, w)));
            }
            asks.add(new Ask("value(" + n + ")", r -> r.value(n)));
            for (int k = 0; k <= 3; k++) {
                int at = k;
                asks.add(new Ask("letter(" + n + ", " + at + ")", r -> r.letter(n, at)));
            }
        }
    }

    private static void askPlan(List<Ask> asks, ShapeReader like, int p) {
        int records = like.record(p, NONE, 0);
        for (int record = NONE; record <= records; record++) {
            int rec = record;
            asks.add(new Ask("record(" + p + ", " + rec + ", 0)", r -> r.record(p, rec, 0)));
            asks.add(new Ask("record(" + p + ", " + rec + ", 1)", r -> r.record(p, rec, 1)));
            for (int field = 0; rec >= 0 && field <= like.record(p, rec, 0); field++) {
                for (int what = 0; what <= 5; what++) {
                    int f = field;
                    int w = what;
                    asks.add(new Ask("field(" + p + ", " + rec + ", " + f + ", " + w + ")", r -> r.field(p, rec, f, w)));
                }
            }
        }
        asks.add(new Ask("readers(" + p + ", 0)", r -> r.readers(p, 0)));
        asks.add(new Ask("readers(" + p + ", 1)", r -> r.readers(p, 1)));
    }

    private static void askPair(List<Ask> asks, ShapeReader like, int w, int p) {
        asks.add(new Ask("matches(" + w + ", " + p + ")", r -> r.matches(w, p)));
        int misses = like.miss(w, p, NONE, 0);
        asks.add(new Ask("miss(" + w + ", " + p + ", -1, 0)", r -> r.miss(w, p, NONE, 0)));
        for (int i = 0; i <= misses; i++) {
            int n = i;
            asks.add(new Ask("miss(" + w + ", " + p + ", " + n + ", 0)", r -> r.miss(w, p, n, 0)));
            asks.add(new Ask("miss(" + w + ", " + p + ", " + n + ", 1)", r -> r.miss(w, p, n, 1)));
            for (int k = 0; k <= like.miss(w, p, n, 1); k++) {
                int at = k;
                asks.add(new Ask("missStep(" + w + ", " + p + ", " + n + ", " + at + ")", r -> r.missStep(w, p, n, at)));
            }
        }
    }
}
