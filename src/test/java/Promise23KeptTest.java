/** Promise 23, kept: the four pairs used latest, the latest first; what uses a pair and what does not. */
public final class Promise23KeptTest extends Edge {
    private static final String PLANS = "plan;record a x int;".repeat(5) + "plan;record a x text;";

    public static void main(String[] args) {
        run(Promise23KeptTest.class);
    }

    /** Message 0 by plan 0, message 1 by plan 5. */
    private static Probe six() {
        Probe p = with(PLANS);
        p.writeDue(0, 0, "{x 1}", 1);
        p.writeDue(1, 5, "{x \"\"}", 1);
        return p;
    }

    static void none() {
        six().keptDue();
    }

    static void oneToFour() {
        Probe p = six();
        p.reader.read(0, 0);
        p.keptDue(0);
        p.reader.read(0, 1);
        p.keptDue(1, 0);
        p.reader.read(0, 2);
        p.keptDue(2, 1, 0);
        p.reader.read(0, 3);
        p.keptDue(3, 2, 1, 0);
        due("not found", 4, p.reader.count(4));
        due("found", 0, p.reader.count(3));
    }

    static void aFifthPushesTheOldestOut() {
        Probe p = six();
        for (int plan = 0; plan < 5; plan++) {
            p.reader.read(0, plan);
        }
        p.keptDue(4, 3, 2, 1);
        p.reader.read(0, 0);
        p.keptDue(0, 4, 3, 2);
        due("it was not found", 6, p.reader.count(4));
        due("none was", 0, p.reader.count(3));
    }

    static void eachOfFourUsedAgainBecomesTheLatest() {
        int[][] want = {{3, 2, 1, 0}, {2, 3, 1, 0}, {1, 3, 2, 0}, {0, 3, 2, 1}};
        for (int k = 0; k < 4; k++) {
            Probe p = six();
            for (int plan = 0; plan < 4; plan++) {
                p.reader.read(0, plan);
            }
            p.reader.read(0, 3 - k);
            p.keptDue(want[k]);
            due("found", 1, p.reader.count(3));
            due("not found", 4, p.reader.count(4));
        }
    }

    static void usedAgainAndNotPushedOut() {
        Probe p = six();
        for (int plan = 0; plan < 4; plan++) {
            p.reader.read(0, plan);
        }
        p.reader.read(0, 0);
        p.reader.read(0, 4);
        p.keptDue(4, 0, 3, 2);
    }

    static void tenTimesTheWriterAndTheReader() {
        Probe p = six();
        p.reader.read(0, 5);
        p.reader.read(1, 0);
        p.reader.read(1, 5);
        p.keptDue(55, 50, 5);
    }

    static void theSamePairByAnotherMessage() {
        Probe p = six();
        p.writeDue(2, 0, "{x 7}", 1);
        p.reader.read(0, 1);
        p.reader.read(2, 1);
        p.keptDue(1);
        due("found", 1, p.reader.count(3));
    }

    static void aPairIsNotTheOtherWayRound() {
        Probe p = six();
        p.writeDue(2, 1, "{x 7}", 1);
        p.reader.read(0, 1);
        p.reader.read(2, 0);
        p.keptDue(10, 1);
        due("not found", 2, p.reader.count(4));
    }

    static void noMatchIsUsedToo() {
        Probe p = six();
        due("read", -2, p.reader.read(0, 5));
        due("convert", -2, p.reader.convert(1, 0, 2));
        p.keptDue(50, 5);
    }

    static void aFailureIsUsedToo() {
        Probe p = six();
        p.reader.cut(0, 0);
        due("read", -3, p.reader.read(0, 1));
        due("convert", -3, p.reader.convert(0, 2, 2));
        p.keptDue(2, 1);
    }

    static void tooManyBytesAreUsedToo() {
        Probe p = with("plan;record a x list int;plan;record a x list real;");
        p.writeDue(0, 0, "{x [" + joined("1", 60) + "]}", 61);
        due("convert", -4, p.reader.convert(0, 1, 2));
        p.keptDue(1);
    }

    static void convertUsesAPairOnce() {
        Probe p = six();
        due("convert", 1, p.reader.convert(0, 3, 0));
        p.keptDue(3);
        due("not found", 1, p.reader.count(4));
        due("convert", 1, p.reader.convert(0, 3, 0));
        p.keptDue(33, 3);
        due("not found", 2, p.reader.count(4));
    }

    static void refusedOnesUseNone() {
        Probe p = six();
        p.reader.read(0, 6);
        p.reader.read(0, NONE);
        p.reader.read(2, 0);
        p.reader.read(4, 0);
        p.reader.convert(0, 0, 4);
        p.reader.convert(0, 6, 0);
        p.reader.convert(3, 0, 0);
        p.keptDue();
        due("found", 0, p.reader.count(3));
        due("not found", 0, p.reader.count(4));
    }

    static void otherCallsUseNone() {
        Probe p = six();
        p.reader.matches(0, 1);
        p.reader.miss(0, 1, NONE, 0);
        p.reader.missStep(0, 1, 0, 0);
        p.reader.readers(0, 1);
        p.reader.alike(0, 0, 1);
        p.writeDue(2, 0, "{x 7}", 1);
        p.keptDue();
        due("not found", 0, p.reader.count(4));
    }

    static void noSuchPair() {
        Probe p = six();
        p.reader.read(0, 0);
        p.reader.read(0, 1);
        for (int i : outsideButNone(1)) {
            due("kept(" + i + ")", NONE, p.reader.kept(i));
        }
    }

    static void noFifthPair() {
        Probe p = six();
        for (int plan = 0; plan < 5; plan++) {
            p.reader.read(0, plan);
        }
        due("kept(3)", 1, p.reader.kept(3));
        for (int i : outsideButNone(3)) {
            due("kept(" + i + ")", NONE, p.reader.kept(i));
        }
        due("kept(NONE)", 4, p.reader.kept(NONE));
    }

    static void goneBehindPlansAndNotBehindAFault() {
        Probe p = six();
        p.reader.read(0, 0);
        p.reader.read(0, 1);
        p.plansFault("plan;@", 1);
        p.keptDue(1, 0);
        p.plansDue(PLANS, 6);
        p.keptDue();
    }

    static void nothingChanges() {
        Watch.unchanged("kept(1)", Watch::nodes, r -> r.kept(1), 11);
        Watch.unchanged("kept(3)", Watch::nodes, r -> r.kept(3), NONE);
        Watch.unchanged("kept(NONE)", Watch::failed, r -> r.kept(NONE), 1);
    }
}
