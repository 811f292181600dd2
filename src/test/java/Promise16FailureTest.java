/** Promise 16, failure: of which call it tells, kind, steps and byte; what is refused. */
public final class Promise16FailureTest extends Edge {
    private static final String PLANS = "plan;record a x int;plan;record a x text;plan;record a y list int else [],x int;";

    public static void main(String[] args) {
        run(Promise16FailureTest.class);
    }

    /** Message 0 can be read, message 1 is cut off. */
    private static Probe two() {
        Probe p = with(PLANS);
        p.writeDue(0, 0, "{x 1}", 1);
        p.writeDue(1, 0, "{x 300}", 2);
        p.reader.cut(1, 1);
        return p;
    }

    private static void noFailure(Probe p) {
        due("failure(0)", NONE, p.reader.failure(0));
        due("failure(1)", NONE, p.reader.failure(1));
        due("failure(2)", NONE, p.reader.failure(2));
        due("failureStep(0)", NONE, p.reader.failureStep(0));
    }

    static void aheadOfAnyRead() {
        noFailure(two());
    }

    static void behindNodes() {
        Probe p = two();
        due("read", 2, p.reader.read(0, 0));
        noFailure(p);
    }

    static void behindNoMatch() {
        Probe p = two();
        due("read", -2, p.reader.read(0, 1));
        noFailure(p);
    }

    static void behindAFailure() {
        Probe p = two();
        due("read", -3, p.reader.read(1, 0));
        p.failureDue(11, 1, 0);
    }

    static void behindAFailureAndNodes() {
        Probe p = two();
        due("read", -3, p.reader.read(1, 0));
        due("read", 2, p.reader.read(0, 0));
        noFailure(p);
    }

    static void behindAFailureAndNoMatch() {
        Probe p = two();
        due("read", -3, p.reader.read(1, 0));
        due("read", -2, p.reader.read(0, 1));
        noFailure(p);
    }

    static void theLatestOfTwo() {
        Probe p = two();
        due("read", -3, p.reader.read(1, 0));
        p.reader.cut(1, 0);
        due("read", -3, p.reader.read(1, 0));
        p.failureDue(11, 0, 0);
    }

    static void behindAConvertThatFailed() {
        Probe p = two();
        due("convert", -3, p.reader.convert(1, 0, 2));
        p.failureDue(11, 1, 0);
    }

    static void behindAConvert() {
        Probe p = two();
        due("read", -3, p.reader.read(1, 0));
        due("convert", 2, p.reader.convert(0, 2, 2));
        noFailure(p);
        due("read", -3, p.reader.read(1, 0));
        due("convert", -2, p.reader.convert(0, 1, 2));
        noFailure(p);
    }

    static void behindAConvertThatHasTooManyBytes() {
        Probe p = with("plan;record a x list int;plan;record a x list real;");
        p.writeDue(0, 0, "{x [" + joined("1", 60) + "]}", 61);
        p.writeDue(1, 0, "{x [1]}", 2);
        p.reader.cut(1, 0);
        due("read", -3, p.reader.read(1, 0));
        due("convert", -4, p.reader.convert(0, 1, 2));
        noFailure(p);
    }

    static void alikeIsNoRead() {
        Probe p = two();
        due("alike", -3, p.reader.alike(1, 1, 0));
        noFailure(p);
        due("read", -3, p.reader.read(1, 0));
        due("alike", 1, p.reader.alike(0, 0, 0));
        due("alike", -2, p.reader.alike(0, 0, 1));
        p.failureDue(11, 1, 0);
    }

    static void itStaysAsItsMessageIsAnotherOne() {
        Probe p = two();
        due("read", -3, p.reader.read(1, 0));
        p.writeDue(1, 0, "{x 1}", 1);
        p.reader.spoil(0, 0, 1);
        p.failureDue(11, 1, 0);
    }

    static void noSuchWhat() {
        Probe p = two();
        due("read", -3, p.reader.read(1, 0));
        for (int what : outside(0, 2)) {
            due("failure(" + what + ")", NONE, p.reader.failure(what));
        }
    }

    static void noSuchWhatAndNoFailure() {
        Probe p = two();
        for (int what : outside(0, 2)) {
            due("failure(" + what + ")", NONE, p.reader.failure(what));
        }
    }

    static void nothingChanges() {
        Watch.unchanged("failure(0)", Watch::failed, r -> r.failure(0), 12);
        Watch.unchanged("failure(3)", Watch::failed, r -> r.failure(3), NONE);
        Watch.unchanged("failure(0)", Watch::nodes, r -> r.failure(0), NONE);
    }
}
