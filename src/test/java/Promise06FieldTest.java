/** Promise 6, field: what is told of a field of each sort, and what is refused. */
public final class Promise06FieldTest extends Edge {
    private static final String PLANS = "plan;record a x int,y b;record b z int,u text,v flag;plan;record c w real;";

    public static void main(String[] args) {
        run(Promise06FieldTest.class);
    }

    private static int asked(String type, int what) {
        return with("plan;record a q int,x " + type + ";record b y int;").reader.field(0, 0, 1, what);
    }

    static void theNineSorts() {
        String[] types = {"none", "flag", "int", "long", "real", "text", "list int", "b", "either int or text"};
        for (int sort = 0; sort < types.length; sort++) {
            due("sort of " + types[sort], sort, asked(types[sort], 0));
        }
    }

    static void withAnElseAndWithout() {
        due("without", 0, asked("int", 1));
        due("with", 1, asked("int else 0", 1));
        due("with none", 1, asked("none else none", 1));
        due("with an empty list", 1, asked("list int else []", 1));
        due("was alone", 0, asked("int was y", 1));
    }

    static void theElseOfEachOfEightFields() {
        for (int k = 0; k < 8; k++) {
            StringBuilder plan = new StringBuilder("plan;record r ");
            for (int f = 0; f < 8; f++) {
                plan.append(f == 0 ? "" : ",").append(letter(f)).append(f == k ? " int was z else 1" : " int");
            }
            Probe p = with(plan + ";");
            for (int f = 0; f < 8; f++) {
                due("else of " + f, f == k ? 1 : 0, p.reader.field(0, 0, f, 1));
                due("was of " + f, f == k ? 1 : 0, p.reader.field(0, 0, f, 2));
            }
        }
    }

    static void calledOtherwiseAndNot() {
        due("not", 0, asked("int", 2));
        due("was", 1, asked("int was y", 2));
        due("was and else", 1, asked("int was y else 1", 2));
        due("else alone", 0, asked("int else 1", 2));
    }

    static void oneToEightLetters() {
        for (int many = 1; many <= 8; many++) {
            Probe p = with("plan;record a " + "z".repeat(many) + " int was b," + "a".repeat(many) + " text;");
            due("letters", many, p.reader.field(0, 0, 0, 3));
            due("letters", many, p.reader.field(0, 0, 1, 3));
        }
    }

    static void twoToFourBranches() {
        due("two", 2, asked("either int or text", 4));
        due("three", 3, asked("either int or text or none", 4));
        due("four", 4, asked("either int or text or none or b", 4));
    }

    static void noBranchesOfOthers() {
        String[] types = {"none", "flag", "int", "long", "real", "text", "list int", "b", "list either int or text"};
        for (String type : types) {
            due("branches of " + type, 0, asked(type, 4));
        }
    }

    static void theRecordOfAType() {
        due("a record", 1, asked("b", 5));
        due("itself", 0, asked("a", 5));
    }

    static void theRecordOfAListOnAndOn() {
        due("a list", 1, asked("list b", 5));
        due("two lists", 1, asked("list list b", 5));
        due("three lists", 1, asked("list list list b", 5));
        due("three lists", 0, asked("list list list a", 5));
    }

    static void noRecordOfOthers() {
        String[] types = {"none", "flag", "int", "long", "real", "text", "list int", "list list list text",
            "either int or b", "either b or int", "list either b or int"};
        for (String type : types) {
            due("record of " + type, NONE, asked(type, 5));
        }
    }

    static void theSixthRecordOfTheSixthPlan() {
        String plan = "plan;record a x f;record b x e;record c x d;record d x c;record e x b;record f y a,x list f;";
        Probe p = with(plan.repeat(6));
        for (int k = 0; k < 5; k++) {
            due("record of field 0 of " + k, 5 - k, p.reader.field(5, k, 0, 5));
        }
        due("record of a list", 5, p.reader.field(5, 5, 1, 5));
        due("record of a field", 0, p.reader.field(5, 5, 0, 5));
    }

    static void noSuchPlan() {
        Probe p = with(PLANS);
        for (int plan : outside(0, 1)) {
            for (int what = 0; what <= 5; what++) {
                due("field(" + plan + ", 0, 0, " + what + ")", NONE, p.reader.field(plan, 0, 0, what));
            }
        }
    }

    static void noSuchRecord() {
        Probe p = with(PLANS);
        for (int record : outside(0, 1)) {
            for (int what = 0; what <= 5; what++) {
                due("field(0, " + record + ", 0, " + what + ")", NONE, p.reader.field(0, record, 0, what));
            }
        }
        due("no second record of the second plan", NONE, p.reader.field(1, 1, 0, 0));
    }

    static void noSuchField() {
        Probe p = with(PLANS);
        for (int field : outside(0, 1)) {
            for (int what = 0; what <= 5; what++) {
                due("field(0, 0, " + field + ", " + what + ")", NONE, p.reader.field(0, 0, field, what));
            }
        }
        due("the third of the second record", 1, p.reader.field(0, 1, 2, 0));
        due("its fourth", NONE, p.reader.field(0, 1, 3, 0));
        due("the second of the second plan", NONE, p.reader.field(1, 0, 1, 0));
    }

    static void noNinthField() {
        Probe p = with("plan;record b a int,b int,c int,d int,e int,f int,g int,h text;record c x flag;");
        due("the eighth", 5, p.reader.field(0, 0, 7, 0));
        due("the ninth", NONE, p.reader.field(0, 0, 8, 0));
    }

    static void noSuchWhat() {
        Probe p = with(PLANS);
        for (int what : outside(0, 5)) {
            due("field(0, 0, 0, " + what + ")", NONE, p.reader.field(0, 0, 0, what));
        }
    }

    /** Plan 0 has six records in front of plan 1's, which has six of its own behind it. */
    static void noFieldOfTheNextPlanOrOfThePlanInFront() {
        String six = "plan;record a x int;record b x int;record c x int;record d x int;record e x int;record f x int;";
        Probe p = with(six.repeat(2));
        for (int record : outside(0, 5)) {
            due("field(0, " + record + ", 0, 0)", NONE, p.reader.field(0, record, 0, 0));
            due("field(1, " + record + ", 0, 0)", NONE, p.reader.field(1, record, 0, 0));
        }
    }

    static void noFieldOfTheNextRecordOrOfTheRecordInFront() {
        String eight = " a int,b int,c int,d int,e int,f int,g int,h int;";
        Probe p = with("plan;record a" + eight + "record b" + eight);
        for (int field : outside(0, 7)) {
            due("field(0, 0, " + field + ", 0)", NONE, p.reader.field(0, 0, field, 0));
            due("field(0, 1, " + field + ", 0)", NONE, p.reader.field(0, 1, field, 0));
        }
    }

    static void nothingChanges() {
        Watch.unchanged("field(0, 0, 0, 0)", Watch::nodes, r -> r.field(0, 0, 0, 0), 2);
        Watch.unchanged("field(0, 0, 9, 0)", Watch::nodes, r -> r.field(0, 0, 9, 0), NONE);
    }
}
