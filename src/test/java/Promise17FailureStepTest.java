/** Promise 17, failureStep: each step of the path by fields of the writer, items and branches; what is refused. */
public final class Promise17FailureStepTest extends Edge {
    private static final String PLANS = "plan;record a p int,x list either int or b;record b u int,v list flag;"
            + "plan;record a x list either b or int;record b v list flag;";

    public static void main(String[] args) {
        run(Promise17FailureStepTest.class);
    }

    /** The second item's flag is spoilt: field 1, item 1, branch 1, field 1, item 0. */
    private static Probe spoilt() {
        Probe p = with(PLANS);
        p.writeDue(0, 0, "{p 1,x [5,{u 1,v [yes]}]}", 8);
        p.reader.spoil(0, 7, 2);
        return p;
    }

    static void eachStep() {
        Probe p = spoilt();
        int[] path = {1, 101, 201, 1, 100};
        due("read", -3, p.reader.read(0, 0));
        for (int k = 0; k < path.length; k++) {
            due("failureStep(" + k + ")", path[k], p.reader.failureStep(k));
        }
        due("its length", 5, p.reader.failure(1));
    }

    static void byFieldsAndBranchesOfTheWriter() {
        Probe p = spoilt();
        due("read", -3, p.reader.read(0, 1));
        p.failureDue(12, 7, 1, 101, 201, 1, 100);
    }

    static void noSuchStep() {
        Probe p = spoilt();
        due("read", -3, p.reader.read(0, 0));
        for (int k : outside(0, 4)) {
            due("failureStep(" + k + ")", NONE, p.reader.failureStep(k));
        }
    }

    static void noStepsAheadOfAnyRead() {
        Probe p = spoilt();
        int[] ks = {0, 1, -1, MIN, MAX};
        for (int k : ks) {
            due("failureStep(" + k + ")", NONE, p.reader.failureStep(k));
        }
    }

    static void noStepsBehindNodes() {
        Probe p = spoilt();
        due("read", -3, p.reader.read(0, 0));
        p.reader.spoil(0, 7, 2);
        due("read", 8, p.reader.read(0, 0));
        due("failureStep(0)", NONE, p.reader.failureStep(0));
    }

    static void noStepsBehindNoMatch() {
        Probe p = with("plan;record a x int;plan;record a x text;");
        p.writeDue(0, 0, "{x 1}", 1);
        p.reader.cut(0, 0);
        due("read", -3, p.reader.read(0, 0));
        due("failureStep(0)", 0, p.reader.failureStep(0));
        due("read", -2, p.reader.read(0, 1));
        due("failureStep(0)", NONE, p.reader.failureStep(0));
    }

    static void noStepsOfBytesLeftOver() {
        Probe p = with("plan;record a x list flag;");
        p.put(0, 0, "{x [yes,yes]}", 2, 1, 1);
        due("read", -3, p.reader.read(0, 0));
        due("kind", 14, p.reader.failure(0));
        due("failure(1)", 0, p.reader.failure(1));
        due("failureStep(0)", NONE, p.reader.failureStep(0));
    }

    static void noStepsOfAFourHundredAndFirstNode() {
        Probe p = with("plan;record a x list list none;");
        p.put(0, 0, "{x [[],[],[],[],[]]}", 4, 0x90, 3, 0x90, 3);
        due("read", -3, p.reader.read(0, 0));
        due("kind", 15, p.reader.failure(0));
        due("failure(1)", 0, p.reader.failure(1));
        due("failureStep(0)", NONE, p.reader.failureStep(0));
    }

    static void aPathOfOneStep() {
        Probe p = with("plan;record a a int,b int,c int,d int,e int,f int,g int,h int;");
        p.writeDue(0, 0, "{a 1,b 1,c 1,d 1,e 1,f 1,g 1,h 1}", 8);
        for (int k = 7; k >= 0; k--) {
            p.reader.cut(0, k);
            due("read", -3, p.reader.read(0, 0));
            p.failureDue(11, k, k);
        }
    }

    static void aShorterPathBehindALongerOne() {
        Probe p = spoilt();
        due("read", -3, p.reader.read(0, 0));
        p.reader.cut(0, 0);
        due("read", -3, p.reader.read(0, 0));
        p.failureDue(11, 0, 0);
        due("the old steps are gone", NONE, p.reader.failureStep(1));
    }

    /** Sixty-one steps: a field and a branch at each of thirty levels, and the field that lies too deep. */
    static void theLongestPath() {
        Probe p = with("plan;record n v int else 1,next either none or n else none;");
        p.writeDue(0, 0, "{next ".repeat(30) + "{}" + "}".repeat(30), 62);
        due("read", -3, p.reader.read(0, 0));
        due("kind", 16, p.reader.failure(0));
        due("steps", 61, p.reader.failure(1));
        for (int k = 0; k < 60; k++) {
            due("failureStep(" + k + ")", k % 2 == 0 ? 1 : 201, p.reader.failureStep(k));
        }
        due("failureStep(60)", 0, p.reader.failureStep(60));
        due("failureStep(61)", NONE, p.reader.failureStep(61));
    }

    static void theLastItemAndTheLastBranch() {
        Probe p = with("plan;record a x list b;record b y either none or int or text or flag else none;"
                + "plan;record a z int else 1;");
        p.writeDue(0, 0, "{x [" + joined("{}", 199) + ",{y yes}]}", 2 + 199 + 2);
        p.reader.cut(0, 202);
        due("read", -3, p.reader.read(0, 1));
        p.failureDue(11, 202, 0, 299, 0, 203);
    }

    static void nothingChanges() {
        Watch.unchanged("failureStep(0)", Watch::failed, r -> r.failureStep(0), 2);
        Watch.unchanged("failureStep(4)", Watch::failed, r -> r.failureStep(4), NONE);
        Watch.unchanged("failureStep(0)", Watch::nodes, r -> r.failureStep(0), NONE);
    }
}
