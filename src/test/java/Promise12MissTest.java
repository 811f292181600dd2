/** Promise 12, miss: which misses there are, of which kinds, in which order, 20 at most; what is refused. */
public final class Promise12MissTest extends Edge {
    /** Three misses: of kinds 2, 1 and 4. */
    private static final String THREE = "plan;record a x text,z either int or flag;plan;record a x int,y int,z flag;";

    public static void main(String[] args) {
        run(Promise12MissTest.class);
    }

    private static Probe pair(String writer, String reader) {
        return with("plan;" + writer + "plan;" + reader);
    }

    private static void count(Probe p, int many) {
        due("misses", many, p.reader.miss(0, 1, NONE, 0));
        due("none behind", NONE, p.reader.miss(0, 1, many, 0));
    }

    static void noMisses() {
        Probe p = pair("record a x int;", "record a x int;");
        count(p, 0);
        due("no first one", NONE, p.reader.miss(0, 1, 0, 0));
        due("no first one", NONE, p.reader.miss(0, 1, 0, 1));
    }

    static void howMany() {
        Probe p = with(THREE);
        count(p, 3);
        due("the other way round", 1, p.reader.miss(1, 0, NONE, 0));
        due("by itself", 0, p.reader.miss(0, 0, NONE, 0));
    }

    static void kindAndSteps() {
        Probe p = with(THREE);
        p.missDue(0, 1, 0, 2, 0);
        p.missDue(0, 1, 1, 1, 1);
        p.missDue(0, 1, 2, 4, 2, 200);
    }

    static void noSuchMiss() {
        Probe p = with(THREE);
        for (int i : outsideButNone(2)) {
            due("miss(0, 1, " + i + ", 0)", NONE, p.reader.miss(0, 1, i, 0));
            due("miss(0, 1, " + i + ", 1)", NONE, p.reader.miss(0, 1, i, 1));
        }
    }

    static void noSuchWhat() {
        Probe p = with(THREE);
        for (int what : outside(0, 1)) {
            due("miss(0, 1, 0, " + what + ")", NONE, p.reader.miss(0, 1, 0, what));
        }
    }

    static void noSuchPlan() {
        Probe p = with(THREE);
        for (int plan : outside(0, 1)) {
            due("miss(" + plan + ", 1, NONE, 0)", NONE, p.reader.miss(plan, 1, NONE, 0));
            due("miss(0, " + plan + ", NONE, 0)", NONE, p.reader.miss(0, plan, NONE, 0));
            due("miss(" + plan + ", 1, 0, 0)", NONE, p.reader.miss(plan, 1, 0, 0));
            due("miss(0, " + plan + ", 0, 0)", NONE, p.reader.miss(0, plan, 0, 0));
        }
    }

    static void aFieldThatIsNotThere() {
        Probe p = pair("record a x int;", "record a y int,x int,z text was q,u int else 1,v real was x;");
        count(p, 2);
        p.missDue(0, 1, 0, 1, 0);
        p.missDue(0, 1, 1, 1, 2);
    }

    static void aFieldThatIsNotThereAndHasAnElse() {
        count(pair("record a x int;", "record a y int else 1,z text was q else \"\",u list int was v else [];"), 0);
    }

    static void plainTypesThatDoNotMatch() {
        Probe p = pair("record a p int,q long,r real,s text,t flag,u none;", "record a p flag,q int,r long,s none,t text,u int;");
        count(p, 6);
        for (int k = 0; k < 6; k++) {
            p.missDue(0, 1, k, 2, k);
        }
    }

    static void recordsAndListsThatDoNotMatch() {
        Probe p = pair("record a x b,y list int,z b,u int;record b v int;", "record a x c,y int,z list b,u b;record b v int;record c v int;");
        count(p, 4);
        for (int k = 0; k < 4; k++) {
            p.missDue(0, 1, k, 2, k);
        }
    }

    static void anEitherOfTheReaderWithoutAMatch() {
        Probe p = pair("record a x flag,y list long;", "record a x either int or text,y list either int or text;");
        count(p, 2);
        p.missDue(0, 1, 0, 3, 0);
        p.missDue(0, 1, 1, 3, 1, 100);
    }

    static void eachBranchOfTheWriterThatDoesNotMatch() {
        Probe p = pair("record a x either none or flag or int or text;", "record a x int;");
        count(p, 3);
        p.missDue(0, 1, 0, 4, 0, 200);
        p.missDue(0, 1, 1, 4, 0, 201);
        p.missDue(0, 1, 2, 4, 0, 203);
    }

    static void noBranchOfTheWriterThatMatches() {
        Probe p = pair("record a x either none or flag or int or text;", "record a x either long or list int;");
        count(p, 3);
        p.missDue(0, 1, 2, 4, 0, 203);
        Probe q = pair("record a x either none or flag;", "record a x either long or list int;");
        count(q, 2);
        due("the roots do not match", 2, q.reader.matches(0, 1));
    }

    static void belowABranchThatMatches() {
        Probe p = pair("record a x either int or b;record b y either text or flag;", "record a x either b or int;record b y text;");
        count(p, 1);
        p.missDue(0, 1, 0, 4, 0, 201, 0, 201);
    }

    static void belowABranchThatDoesNotMatchIsNothing() {
        Probe p = pair("record a x either int or b;record b y text,z text;", "record a x either b or int;record b y int,z int;");
        count(p, 1);
        p.missDue(0, 1, 0, 4, 0, 201);
        Probe q = pair("record a x either int or list text;", "record a x either int or list flag;");
        count(q, 1);
        q.missDue(0, 1, 0, 4, 0, 201);
    }

    static void aBranchThatDoesNotMatchIsNoLookAtItsPair() {
        Probe p = pair("record a x either int or b,y b;record b v text;", "record a x either int or b,y b;record b v int;");
        count(p, 2);
        p.missDue(0, 1, 0, 4, 0, 201);
        p.missDue(0, 1, 1, 2, 1, 0);
        Probe q = pair("record a x either int or b,y b;record b v text;", "record a x b,y b;record b v int;");
        count(q, 3);
        q.missDue(0, 1, 0, 4, 0, 200);
        q.missDue(0, 1, 1, 4, 0, 201);
        q.missDue(0, 1, 2, 2, 1, 0);
    }

    static void belowAnEitherOfTheReaderWithoutAMatchIsNothing() {
        Probe p = pair("record a x b,y list text,z b;record b v text;",
                "record a x either int or b,y either int or list flag,z b;record b v int;");
        count(p, 3);
        p.missDue(0, 1, 0, 3, 0);
        p.missDue(0, 1, 1, 3, 1);
        p.missDue(0, 1, 2, 2, 2, 0);
    }

    static void belowWhatIsChosen() {
        Probe p = pair("record a x b;record b y either int or text;", "record a x either int or b;record b y int;");
        count(p, 1);
        p.missDue(0, 1, 0, 4, 0, 0, 201);
        Probe q = pair("record a x list either int or text;", "record a x either text or list int;");
        count(q, 1);
        q.missDue(0, 1, 0, 4, 0, 100, 201);
    }

    static void belowAListAndLists() {
        Probe p = pair("record a x list list list text,y list b;record b z text;", "record a x list list list int,y list b;record b z int;");
        count(p, 2);
        p.missDue(0, 1, 0, 2, 0, 100, 100, 100);
        p.missDue(0, 1, 1, 2, 1, 100, 0);
    }

    static void aListByAListThatGoesDeeper() {
        Probe p = pair("record a x list int,y list list int;", "record a x list list int,y list int;");
        count(p, 2);
        p.missDue(0, 1, 0, 2, 0, 100);
        p.missDue(0, 1, 1, 2, 1, 100);
    }

    static void aPairIsLookedAtOnce() {
        Probe p = pair("record a x b,y b,z list b;record b v text;", "record a x b,y b,z list b;record b v int;");
        count(p, 1);
        p.missDue(0, 1, 0, 2, 0, 0);
    }

    static void theRootsPairIsLookedAtOnce() {
        Probe p = pair("record a x list a,y text;", "record b x list b,y int;");
        count(p, 1);
        p.missDue(0, 1, 0, 2, 1);
    }

    static void recordsOfOtherNamesAreNotLookedInto() {
        Probe p = pair("record a x b;record b y text;", "record a x c;record c y int;");
        count(p, 1);
        p.missDue(0, 1, 0, 2, 0);
    }

    static void inOrderOfTheReadersFields() {
        Probe p = pair("record a x text,y text,z b;record b v text;", "record a z b,y int,w int,x int;record b v int;");
        count(p, 4);
        p.missDue(0, 1, 0, 2, 0, 0);
        p.missDue(0, 1, 1, 2, 1);
        p.missDue(0, 1, 2, 1, 2);
        p.missDue(0, 1, 3, 2, 3);
    }

    /** Seven fields of a, seven of b and as many of c as one likes are not there. */
    private static Probe absent(int inLast) {
        StringBuilder reader = new StringBuilder();
        for (int record = 0; record < 3; record++) {
            reader.append("record ").append(letter(record)).append(' ');
            for (int k = 0; k < (record < 2 ? 7 : inLast); k++) {
                reader.append(letter(k)).append(" int,");
            }
            reader.append("z ").append(record < 2 ? letter(record + 1) : "none").append(';');
        }
        return pair("record a z b;record b z c;record c z none;", reader.toString());
    }

    static void nineteenMisses() {
        Probe p = absent(5);
        count(p, 19);
        p.missDue(0, 1, 18, 1, 7, 7, 4);
    }

    static void twentyMisses() {
        Probe p = absent(6);
        count(p, 20);
        p.missDue(0, 1, 0, 1, 0);
        p.missDue(0, 1, 6, 1, 6);
        p.missDue(0, 1, 7, 1, 7, 0);
        p.missDue(0, 1, 19, 1, 7, 7, 5);
    }

    static void theTwentyFirstIsLeftOut() {
        Probe p = absent(7);
        count(p, 20);
        p.missDue(0, 1, 19, 1, 7, 7, 5);
        due("miss(0, 1, 20, 0)", NONE, p.reader.miss(0, 1, 20, 0));
        due("miss(0, 1, 20, 1)", NONE, p.reader.miss(0, 1, 20, 1));
    }

    static void moreThanTwentyBranches() {
        StringBuilder writer = new StringBuilder("record a ");
        StringBuilder reader = new StringBuilder("record a ");
        for (int k = 0; k < 8; k++) {
            writer.append(k == 0 ? "" : ",").append(letter(k)).append(" either int or text or none or flag");
            reader.append(k == 0 ? "" : ",").append(letter(k)).append(" int");
        }
        Probe p = pair(writer + ";", reader + ";");
        count(p, 20);
        p.missDue(0, 1, 19, 4, 6, 202);
    }

    static void eachPairHasItsOwn() {
        Probe p = with("plan;record a x int;plan;record a x text;plan;record a y int,z int;");
        due("misses of 0, 1", 1, p.reader.miss(0, 1, NONE, 0));
        due("misses of 0, 2", 2, p.reader.miss(0, 2, NONE, 0));
        due("misses of 0, 0", 0, p.reader.miss(0, 0, NONE, 0));
        due("kind of 0, 1", 2, p.reader.miss(0, 1, 0, 0));
        due("kind of 2, 0", 1, p.reader.miss(2, 0, 0, 0));
        due("no second of 2, 0", NONE, p.reader.miss(2, 0, 1, 0));
    }

    static void nothingChanges() {
        Watch.unchanged("miss(0, 2, NONE, 0)", Watch::nodes, r -> r.miss(0, 2, NONE, 0), 1);
        Watch.unchanged("miss(0, 2, 0, 0)", Watch::failed, r -> r.miss(0, 2, 0, 0), 2);
        Watch.unchanged("miss(0, 3, 0, 0)", Watch::nodes, r -> r.miss(0, 3, 0, 0), NONE);
    }
}
