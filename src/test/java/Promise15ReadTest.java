/** Promise 15, read: how many nodes, -2, -3, what is refused; what stays and what is gone then. */
public final class Promise15ReadTest extends Edge {
    /** Two lists whose counts take two bytes each, so that they can be made others. */
    private static final String LISTS = "{x [" + joined("none", 64) + "],y [" + joined("none", 64) + "]}";

    public static void main(String[] args) {
        run(Promise15ReadTest.class);
    }

    static void twoNodesAtLeast() {
        Probe p = with("plan;record a x none;");
        p.writeDue(0, 0, "{x none}", 0);
        due("read", 2, p.reader.read(0, 0));
        due("count(2)", 2, p.reader.count(2));
    }

    private static Probe lists(int last) {
        Probe p = with("plan;record a x list none,y list none;plan;record a x list none,y list none,z int else 5;");
        int z = 2 * last;
        p.put(0, 0, LISTS, 0x90, 3, z & 127 | 128, z >> 7);
        return p;
    }

    static void threeHundredAndNinetyNineNodes() {
        Probe p = lists(196);
        due("read", 399, p.reader.read(0, 0));
        due("with one that else tells", 400, p.reader.read(0, 1));
        due("the one that else told", 5, p.reader.value(399));
    }

    static void fourHundredNodes() {
        Probe p = lists(197);
        due("read", 400, p.reader.read(0, 0));
        due("count(2)", 400, p.reader.count(2));
        due("the last one's place", 196, p.reader.node(399, 2));
        throwsDue("node(400, 0)", () -> p.reader.node(400, 0));
    }

    static void aFourHundredAndFirstNode() {
        Probe p = lists(198);
        due("read", -3, p.reader.read(0, 0));
        p.failureDue(15, NONE);
        due("count(2)", 0, p.reader.count(2));
    }

    static void aFourHundredAndFirstNodeThatElseTells() {
        Probe p = lists(197);
        due("read", -3, p.reader.read(0, 1));
        p.failureDue(15, NONE);
    }

    static void whatIsSkippedHasNoNodes() {
        Probe p = with("plan;record a x list none,y list none;plan;record a z int else 5;");
        p.put(0, 0, LISTS, 0x90, 3, 0x90, 3);
        due("read", 2, p.reader.read(0, 1));
    }

    static void eachMessage() {
        Probe p = with("plan;record a x int;");
        for (int message = 0; message < 4; message++) {
            p.writeDue(message, 0, "{x " + message + "}", 1);
        }
        for (int message = 0; message < 4; message++) {
            due("read", 2, p.reader.read(message, 0));
            due("its value", message, p.reader.value(1));
        }
    }

    static void eachOfSixPlans() {
        Probe p = with("plan;record a x int;plan;record a x int,b int else 1;plan;record a x int,b int else 1,c int else 1;"
                + "plan;record a x long;plan;record a x text;plan;record a x real;");
        int[] want = {2, 3, 4, 2, -2, 2};
        p.writeDue(0, 0, "{x 1}", 1);
        for (int plan = 0; plan < 6; plan++) {
            due("read(0, " + plan + ")", want[plan], p.reader.read(0, plan));
        }
    }

    static void noSuchMessage() {
        for (int message : outside(0, 3)) {
            Watch.unchanged("read(" + message + ", 0)", Watch::nodes, r -> r.read(message, 0), NONE);
            Watch.unchanged("read(" + message + ", 0)", Watch::failed, r -> r.read(message, 0), NONE);
        }
    }

    static void aMessageThatWasNotWritten() {
        Watch.unchanged("read(2, 0)", Watch::nodes, r -> r.read(2, 0), NONE);
        Watch.unchanged("read(2, 0)", Watch::failed, r -> r.read(2, 0), NONE);
    }

    static void noSuchPlan() {
        for (int plan : outside(0, 2)) {
            Watch.unchanged("read(0, " + plan + ")", Watch::nodes, r -> r.read(0, plan), NONE);
            Watch.unchanged("read(0, " + plan + ")", Watch::failed, r -> r.read(0, plan), NONE);
        }
    }

    static void noMatchLeavesNoNodes() {
        Probe p = with("plan;record a x int;plan;record a x text;");
        p.writeDue(0, 0, "{x 1}", 1);
        due("read", 2, p.reader.read(0, 0));
        due("read", -2, p.reader.read(0, 1));
        due("count(2)", 0, p.reader.count(2));
        throwsDue("node(0, 0)", () -> p.reader.node(0, 0));
        throwsDue("value(0)", () -> p.reader.value(0));
        due("no failure", NONE, p.reader.failure(0));
    }

    static void aFailureLeavesNoNodes() {
        Probe p = with("plan;record a x int;");
        p.writeDue(0, 0, "{x 1}", 1);
        due("read", 2, p.reader.read(0, 0));
        p.reader.cut(0, 0);
        due("read", -3, p.reader.read(0, 0));
        due("count(2)", 0, p.reader.count(2));
        throwsDue("node(0, 0)", () -> p.reader.node(0, 0));
    }

    static void theRootsAloneMustMatch() {
        Probe p = with("plan;record a x either int or text;plan;record a x int;");
        p.writeDue(0, 0, "{x 5}", 2);
        p.writeDue(1, 0, "{x \"\"}", 2);
        due("a branch that matches", 2, p.reader.read(0, 1));
        due("a branch that does not", -3, p.reader.read(1, 1));
    }

    static void noMatchIsToldAheadOfSpoiltBytes() {
        Probe p = with("plan;record a x int;plan;record a x text;");
        p.writeDue(0, 0, "{x 1}", 1);
        p.reader.cut(0, 0);
        due("read", -2, p.reader.read(0, 1));
    }

    static void allElseStays() {
        Watch.unchangedBut("read(3, 0)", Watch::nodes, r -> r.read(3, 0), 8, "count(2)", "count(3)", "count(4)", "kept",
                "node", "value", "letter");
        Watch.unchangedBut("read(0, 2)", Watch::nodes, r -> r.read(0, 2), -2, "count(2)", "count(3)", "count(4)", "kept",
                "node", "value", "letter");
    }

    static void theSameMessageTwice() {
        Probe p = with("plan;record a x list int,y int else 3;");
        p.writeDue(0, 0, "{x [1,2]}", 4);
        for (int k = 0; k < 3; k++) {
            due("read", 5, p.reader.read(0, 0));
            due("its last value", 3, p.reader.value(4));
        }
    }

    static void nodesStayAsTheirMessageIsSpoilt() {
        Probe p = with("plan;record a x int;");
        p.writeDue(0, 0, "{x 1}", 1);
        due("read", 2, p.reader.read(0, 0));
        p.reader.spoil(0, 0, 255);
        p.reader.cut(0, 0);
        p.writeDue(0, 0, "{x 7}", 1);
        due("the value as it was read", 1, p.reader.value(1));
        due("count(2)", 2, p.reader.count(2));
    }
}
