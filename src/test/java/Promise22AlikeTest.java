/** Promise 22, alike: whether two messages read by a plan have like nodes; nothing is another one. */
public final class Promise22AlikeTest extends Edge {
    private static final String PLANS = "plan;record a x int,y int;plan;record a y long else 5,x real;"
            + "plan;record a x either text or real,y real else 5,z int else 0;plan;record a z text;";

    public static void main(String[] args) {
        run(Promise22AlikeTest.class);
    }

    private static void alike(String type, String one, String other, int want) {
        Probe p = with("plan;record a x " + type + ";record b y int,z int else 4;");
        due("write", 1, p.write(0, 0, "{x " + one + "}") >= 0 ? 1 : 0);
        due("write", 1, p.write(3, 0, "{x " + other + "}") >= 0 ? 1 : 0);
        due(one + " and " + other, want, p.reader.alike(0, 3, 0));
        due(other + " and " + one, want, p.reader.alike(3, 0, 0));
    }

    static void aMessageWithItself() {
        for (int message = 0; message < 4; message++) {
            Probe p = with("plan;record a x int;");
            p.writeDue(message, 0, "{x 1}", 1);
            due("alike", 1, p.reader.alike(message, message, 0));
        }
    }

    static void otherValues() {
        alike("none", "none", "none", 1);
        alike("flag", "yes", "yes", 1);
        alike("flag", "yes", "no", 0);
        alike("int", "2147483647", "2147483647", 1);
        alike("int", "2147483647", "-2147483648", 0);
        alike("long", "1", "4294967297", 0);
        alike("real", "0.0", "-0.0", 0);
        alike("real", "0.1", "0.1", 1);
        alike("real", "0.1", "0.2", 0);
        alike("real", "1", "1.0", 1);
    }

    static void otherLetters() {
        alike("text", "\"\"", "\"\"", 1);
        alike("text", "\"\"", "\"a\"", 0);
        alike("text", "\"abcdefghijkl\"", "\"abcdefghijkl\"", 1);
        alike("text", "\"abcdefghijkl\"", "\"abcdefghijkm\"", 0);
        alike("text", "\"abcdefghijkl\"", "\"abcdefghijk\"", 0);
        alike("text", "\"ba\"", "\"ab\"", 0);
    }

    static void otherLists() {
        alike("list int", "[]", "[]", 1);
        alike("list int", "[]", "[0]", 0);
        alike("list int", "[1,2]", "[2,1]", 0);
        alike("list list int", "[[],[1]]", "[[1],[]]", 0);
        alike("list list none", "[[none],[]]", "[[],[none]]", 0);
        alike("list list none", "[[none,none]]", "[[none],[none]]", 0);
    }

    static void otherBranches() {
        alike("either int or long or real or none", "1", "1", 1);
        alike("either int or long or real or none", "0", "none", 0);
        alike("either int or real", "0", "0.0", 0);
        alike("either list int or b", "[]", "{y 0}", 0);
    }

    static void otherFields() {
        alike("b", "{y 1}", "{y 1}", 1);
        alike("b", "{y 1}", "{y 1,z 4}", 1);
        alike("b", "{y 1}", "{y 1,z 5}", 0);
    }

    static void readByAnotherPlan() {
        Probe p = with(PLANS);
        p.writeDue(0, 0, "{x 3,y 5}", 2);
        p.writeDue(1, 1, "{x 3}", 9);
        p.writeDue(2, 0, "{x 3,y 6}", 2);
        due("numbers widened", 1, p.reader.alike(0, 1, 1));
        due("others", 0, p.reader.alike(2, 1, 1));
        due("z is filled in for both", 1, p.reader.alike(0, 1, 2));
    }

    static void whatIsFilledInIsLikeWhatWasTold() {
        Probe p = with("plan;record a x int;plan;record a x int,y int else 5;");
        p.writeDue(0, 0, "{x 3}", 1);
        p.writeDue(1, 1, "{x 3,y 5}", 2);
        p.writeDue(2, 1, "{x 3,y 6}", 2);
        due("read", 3, p.reader.read(0, 1));
        due("y is filled in", 1, p.reader.node(2, 4));
        due("read", 3, p.reader.read(1, 1));
        due("y was told", 0, p.reader.node(2, 4));
        due("filled in and told", 1, p.reader.alike(0, 1, 1));
        due("told and filled in", 1, p.reader.alike(1, 0, 1));
        due("filled in and told otherwise", 0, p.reader.alike(0, 2, 1));
    }

    static void likeValuesThatOtherNodesHave() {
        Probe p = with("plan;record a x list either int or b;record b k list either int or b;");
        p.writeDue(0, 0, "{x [{k [1]},{k []}]}", 7);
        p.writeDue(1, 0, "{x [{k [1,{k []}]}]}", 7);
        p.writeDue(2, 0, "{x [{k [1]},{k []}]}", 7);
        due("the inner one beside the other and in it", 0, p.reader.alike(0, 1, 0));
        due("the inner one in the other and beside it", 0, p.reader.alike(1, 0, 0));
        due("both beside it", 1, p.reader.alike(0, 2, 0));
    }

    static void whatTheReaderHasNotMayBeAnother() {
        Probe p = with("plan;record a x int,y int;plan;record a x int;");
        p.writeDue(0, 0, "{x 3,y 5}", 2);
        p.writeDue(1, 0, "{x 3,y 6}", 2);
        due("by itself", 0, p.reader.alike(0, 1, 0));
        due("without y", 1, p.reader.alike(0, 1, 1));
    }

    static void noMatch() {
        Probe p = with(PLANS);
        p.writeDue(0, 0, "{x 3,y 5}", 2);
        p.writeDue(1, 1, "{x 3}", 9);
        due("neither", -2, p.reader.alike(0, 1, 3));
        due("the first one", -2, p.reader.alike(1, 0, 0));
        due("the second one", -2, p.reader.alike(0, 1, 0));
    }

    static void aFailure() {
        Probe p = with(PLANS);
        p.writeDue(0, 0, "{x 3,y 5}", 2);
        p.writeDue(1, 0, "{x 3,y 5}", 2);
        p.reader.cut(1, 1);
        due("the first one", -3, p.reader.alike(1, 0, 0));
        due("the second one", -3, p.reader.alike(0, 1, 0));
        due("both", -3, p.reader.alike(1, 1, 0));
    }

    static void theFirstOneFirst() {
        Probe p = with(PLANS);
        p.writeDue(0, 0, "{x 3,y 5}", 2);
        p.writeDue(1, 1, "{x 3}", 9);
        p.reader.cut(0, 1);
        due("a failure, then no match", -3, p.reader.alike(0, 1, 0));
        due("no match, then a failure", -2, p.reader.alike(1, 0, 0));
    }

    static void noSuchMessage() {
        for (int message : outside(0, 3)) {
            Watch.unchanged("alike(" + message + ", 0, 1)", Watch::nodes, r -> r.alike(message, 0, 1), NONE);
            Watch.unchanged("alike(0, " + message + ", 1)", Watch::nodes, r -> r.alike(0, message, 1), NONE);
        }
    }

    static void aMessageThatWasNotWritten() {
        Watch.unchanged("alike(2, 0, 1)", Watch::nodes, r -> r.alike(2, 0, 1), NONE);
        Watch.unchanged("alike(0, 2, 1)", Watch::failed, r -> r.alike(0, 2, 1), NONE);
        Watch.unchanged("alike(2, 2, 1)", Watch::failed, r -> r.alike(2, 2, 1), NONE);
    }

    static void oneThatIsRefusedGoesAheadOfOneThatCannotBeRead() {
        Watch.unchanged("alike(3, 2, 1)", Watch::failed, r -> r.alike(3, 2, 1), NONE);
        Watch.unchanged("alike(2, 3, 1)", Watch::failed, r -> r.alike(2, 3, 1), NONE);
        Watch.unchanged("alike(0, 4, 2)", Watch::nodes, r -> r.alike(0, 4, 2), NONE);
        Watch.unchanged("alike(3, 3, 3)", Watch::failed, r -> r.alike(3, 3, 3), NONE);
    }

    static void noSuchPlan() {
        for (int plan : outside(0, 2)) {
            Watch.unchanged("alike(0, 1, " + plan + ")", Watch::nodes, r -> r.alike(0, 1, plan), NONE);
        }
    }

    static void nothingIsAnotherOne() {
        Watch.unchanged("alike(0, 0, 1)", Watch::nodes, r -> r.alike(0, 0, 1), 1);
        Watch.unchanged("alike(0, 1, 1)", Watch::nodes, r -> r.alike(0, 1, 1), 0);
        Watch.unchanged("alike(0, 1, 2)", Watch::nodes, r -> r.alike(0, 1, 2), -2);
        Watch.unchanged("alike(0, 0, 1)", Watch::failed, r -> r.alike(0, 0, 1), 1);
        Watch.unchanged("alike(0, 3, 1)", Watch::failed, r -> r.alike(0, 3, 1), -3);
        Watch.unchanged("alike(3, 0, 1)", Watch::failed, r -> r.alike(3, 0, 1), -3);
        Watch.unchanged("alike(0, 1, 0)", Watch::failed, r -> r.alike(0, 1, 0), -2);
    }

    static void fourHundredNodes() {
        Probe p = with("plan;record a x list none,y list none;");
        String lists = "{x [" + joined("none", 64) + "],y [" + joined("none", 64) + "]}";
        p.put(0, 0, lists, 0x90, 3, 0x8a, 3);
        p.put(1, 0, lists, 0x8a, 3, 0x90, 3);
        p.put(2, 0, lists, 0x90, 3, 0x8c, 3);
        due("read", 400, p.reader.read(0, 0));
        due("with itself", 1, p.reader.alike(0, 0, 0));
        due("the other way round", 0, p.reader.alike(0, 1, 0));
        due("with 401", -3, p.reader.alike(0, 2, 0));
        due("401 with it", -3, p.reader.alike(2, 0, 0));
        due("nodes stay", 400, p.reader.count(2));
    }
}
