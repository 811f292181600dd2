/** Promise 5, record: fields and letters of each record, records of each plan, and what is refused. */
public final class Promise05RecordTest extends Edge {
    private static final String PLANS = "plan;record a x int;record abcdefgh y int,z int;plan;record bc u int;";

    public static void main(String[] args) {
        run(Promise05RecordTest.class);
    }

    static void oneRecordAndSix() {
        Probe p = with("plan;record a x int;plan;record a x int;record b x int;record c x int;record d x int;"
                + "record e x int;record f x int;");
        due("one", 1, p.reader.record(0, NONE, 0));
        due("six", 6, p.reader.record(1, NONE, 0));
        due("the sixth", 1, p.reader.record(1, 5, 0));
        due("no seventh", NONE, p.reader.record(1, 6, 0));
        due("no second of the first plan", NONE, p.reader.record(0, 1, 0));
    }

    static void recordsOfAPlanWhateverWhatIs() {
        Probe p = with(PLANS);
        int[] whats = {-1, 0, 1, 2, 77, MIN, MAX};
        for (int what : whats) {
            due("record(0, NONE, " + what + ")", 2, p.reader.record(0, NONE, what));
            due("record(1, NONE, " + what + ")", 1, p.reader.record(1, NONE, what));
        }
    }

    static void recordsOfEachOfSixPlans() {
        Probe p = with("plan;record a x int;".repeat(5) + "plan;record a x int;record b x int;");
        due("the first", 1, p.reader.record(0, NONE, 0));
        due("the sixth", 2, p.reader.record(5, NONE, 0));
        for (int plan : outside(0, 5)) {
            due("record(" + plan + ", NONE, 0)", NONE, p.reader.record(plan, NONE, 0));
        }
    }

    static void noSuchPlan() {
        Probe p = with(PLANS);
        for (int plan : outside(0, 1)) {
            due("record(" + plan + ", 0, 0)", NONE, p.reader.record(plan, 0, 0));
            due("record(" + plan + ", NONE, 0)", NONE, p.reader.record(plan, NONE, 0));
        }
    }

    static void noSuchRecord() {
        Probe p = with(PLANS);
        for (int record : outsideButNone(1)) {
            due("record(0, " + record + ", 0)", NONE, p.reader.record(0, record, 0));
            due("record(0, " + record + ", 1)", NONE, p.reader.record(0, record, 1));
        }
    }

    static void noSuchWhat() {
        Probe p = with(PLANS);
        for (int what : outside(0, 1)) {
            due("record(0, 0, " + what + ")", NONE, p.reader.record(0, 0, what));
        }
    }

    static void oneFieldAndEight() {
        Probe p = with("plan;record a a int;record b a int,b int,c int,d int,e int,f int,g int,h int;");
        due("one", 1, p.reader.record(0, 0, 0));
        due("eight", 8, p.reader.record(0, 1, 0));
    }

    static void oneToEightLetters() {
        for (int many = 1; many <= 8; many++) {
            Probe p = with("plan;record " + "z".repeat(many) + " x int;record " + "a".repeat(many) + " x int;");
            due("letters", many, p.reader.record(0, 0, 1));
            due("letters", many, p.reader.record(0, 1, 1));
        }
    }

    /** Plan 0 has six records in front of plan 1's, which has six of its own behind it. */
    static void noRecordOfTheNextPlanOrOfThePlanInFront() {
        String six = "plan;record a x int;record b x int;record c x int;record d x int;record e x int;record f x int;";
        Probe p = with(six.repeat(2));
        for (int record : outsideButNone(5)) {
            due("record(0, " + record + ", 0)", NONE, p.reader.record(0, record, 0));
            due("record(1, " + record + ", 0)", NONE, p.reader.record(1, record, 0));
        }
    }

    static void nothingChanges() {
        Watch.unchanged("record(0, 0, 0)", Watch::nodes, r -> r.record(0, 0, 0), 3);
        Watch.unchanged("record(9, 9, 9)", Watch::nodes, r -> r.record(9, 9, 9), NONE);
    }
}
