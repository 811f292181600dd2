/** Promise 13, missStep: each step of a path, the longest one too; what is refused. */
public final class Promise13MissStepTest extends Edge {
    private static final String TWO = "plan;record a x list list either int or b,y text;record b z text;"
            + "plan;record a x list list either int or b,y int;record b z int;";

    public static void main(String[] args) {
        run(Promise13MissStepTest.class);
    }

    static void eachStep() {
        Probe p = with(TWO);
        int[] path = {0, 100, 100, 201};
        for (int k = 0; k < path.length; k++) {
            due("step " + k, path[k], p.reader.missStep(0, 1, 0, k));
        }
        due("step of the second", 1, p.reader.missStep(0, 1, 1, 0));
    }

    static void noSuchStep() {
        Probe p = with(TWO);
        for (int k : outside(0, 3)) {
            due("missStep(0, 1, 0, " + k + ")", NONE, p.reader.missStep(0, 1, 0, k));
        }
        for (int k : outside(0, 0)) {
            due("missStep(0, 1, 1, " + k + ")", NONE, p.reader.missStep(0, 1, 1, k));
        }
    }

    static void noSuchMiss() {
        Probe p = with(TWO);
        for (int i : outside(0, 1)) {
            due("missStep(0, 1, " + i + ", 0)", NONE, p.reader.missStep(0, 1, i, 0));
        }
        due("where there is none", NONE, p.reader.missStep(0, 0, 0, 0));
    }

    static void noSuchPlan() {
        Probe p = with(TWO);
        for (int plan : outside(0, 1)) {
            due("missStep(" + plan + ", 1, 0, 0)", NONE, p.reader.missStep(plan, 1, 0, 0));
            due("missStep(0, " + plan + ", 0, 0)", NONE, p.reader.missStep(0, plan, 0, 0));
        }
    }

    static void theEighthFieldAndTheFourthBranch() {
        String fields = "record a a int,b int,c int,d int,e int,f int,g int,h ";
        Probe p = with("plan;" + fields + "either int or long or real or text;plan;" + fields + "real;");
        due("misses", 1, p.reader.miss(0, 1, NONE, 0));
        p.missDue(0, 1, 0, 4, 7, 203);
    }

    static void theReadersFieldIsTheStep() {
        Probe p = with("plan;record a x int,y int,z text;plan;record a z int;");
        p.missDue(0, 1, 0, 2, 0);
    }

    /** Seven pairs of records in one another, each with a field and three lists. */
    static void theLongestPath() {
        String lists = " list list list ";
        Probe p = with("plan;record a x" + lists + "c,y" + lists + "g;record g w" + lists + "text;record c x" + lists + "d;"
                + "record d x" + lists + "e;record e x" + lists + "f;record f x" + lists + "a;"
                + "plan;record g x" + lists + "c else [],w" + lists + "int else [];record a y" + lists + "g;record c x" + lists + "d;"
                + "record d x" + lists + "e;record e x" + lists + "f;record f x" + lists + "a;");
        due("misses", 1, p.reader.miss(0, 1, NONE, 0));
        int[] path = new int[28];
        for (int k = 0; k < 28; k++) {
            path[k] = k == 24 ? 1 : k % 4 == 0 ? 0 : 100;
        }
        p.missDue(0, 1, 0, 2, path);
        due("step 28", NONE, p.reader.missStep(0, 1, 0, 28));
    }

    static void nothingChanges() {
        Watch.unchanged("missStep(0, 2, 0, 0)", Watch::nodes, r -> r.missStep(0, 2, 0, 0), 0);
        Watch.unchanged("missStep(0, 2, 0, 1)", Watch::failed, r -> r.missStep(0, 2, 0, 1), NONE);
    }
}
