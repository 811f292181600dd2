/** Promise 4, write: which message, plan and n are taken, what stays; how many bytes there may be. */
public final class Promise04WriteTest extends Edge {
    private static final String TWO = "plan;record a x int;plan;record b y text;";

    public static void main(String[] args) {
        run(Promise04WriteTest.class);
    }

    private static ShapeReader twoPlans() {
        Probe p = with(TWO);
        p.writeDue(1, 0, "{x 1}", 1);
        p.reader.read(1, 0);
        p.feed("{x 300}");
        return p.reader;
    }

    static void eachOfTheFourMessages() {
        for (int message = 0; message < 4; message++) {
            Probe p = with(TWO);
            p.writeDue(message, 0, "{x 1}", 1);
            due("count(1)", 1 << message, p.reader.count(1));
        }
    }

    static void noSuchMessage() {
        for (int message : outside(0, 3)) {
            Watch.unchanged("write(" + message + ", 0, 7)", Promise04WriteTest::twoPlans, r -> r.write(message, 0, 7), NONE);
        }
    }

    static void eachOfThePlans() {
        Probe p = with("plan;record a x int;".repeat(6));
        for (int plan = 0; plan < 6; plan++) {
            p.writeDue(0, plan, "{x 1}", 1);
            due("its plan", plan, p.reader.message(0, 1));
        }
    }

    static void noSuchPlan() {
        for (int plan : outside(0, 1)) {
            Watch.unchanged("write(0, " + plan + ", 7)", Promise04WriteTest::twoPlans, r -> r.write(0, plan, 7), NONE);
        }
    }

    static void noSuchPlanAmongSix() {
        Probe p = with("plan;record a x int;".repeat(6));
        p.feed("{x 1}");
        for (int plan : outside(0, 5)) {
            due("write(0, " + plan + ", 5)", NONE, p.reader.write(0, plan, 5));
        }
        due("count(5)", 20, p.reader.count(5));
        due("count(1)", 0, p.reader.count(1));
    }

    static void noSuchManyBytes() {
        for (int n : outside(0, 20)) {
            Watch.unchanged("write(0, 0, " + n + ")", Promise04WriteTest::twoPlans, r -> r.write(0, 0, n), NONE);
        }
    }

    static void oneByteOfAnEmptyTapeIsRefused() {
        Probe p = with(TWO);
        due("write(0, 0, 1)", NONE, p.reader.write(0, 0, 1));
    }

    static void noBytesAreAFormFault() {
        Probe p = with(TWO);
        due("write(0, 0, 0)", Probe.fault(0, 1), p.reader.write(0, 0, 0));
        p.feed("{x 1}");
        due("write(0, 0, 0)", Probe.fault(0, 1), p.reader.write(0, 0, 0));
        due("the tape is empty", 0, p.reader.count(5));
    }

    static void allBytesOfTheTape() {
        Probe p = with(TWO);
        p.feed("{x             -300}");
        due("write(0, 0, 20)", 2, p.reader.write(0, 0, 20));
        due("count(5)", 0, p.reader.count(5));
    }

    static void theFirstBytesAlone() {
        Probe p = with(TWO);
        p.feed("{x 1}%%% no text");
        due("write(0, 0, 5)", 1, p.reader.write(0, 0, 5));
        due("what is behind is gone, too", 0, p.reader.count(5));
        p.feed("{x 1}");
        due("write(0, 0, 4)", Probe.fault(4, 1), p.reader.write(0, 0, 4));
    }

    static void aFullTape() {
        Probe p = with(TWO);
        p.feed("{x 1" + " ".repeat(995) + "}");
        due("write(0, 0, 1000)", 1, p.reader.write(0, 0, 1000));
        p.feed("{x 1" + " ".repeat(996));
        due("write(0, 0, 1000)", Probe.fault(1000, 1), p.reader.write(0, 0, 1000));
        p.feed("{x 1}" + " ".repeat(994) + "}");
        due("write(0, 0, 1000)", Probe.fault(999, 1), p.reader.write(0, 0, 1000));
        p.feed("{x 1}" + " ".repeat(995));
        due("write(0, 0, 1001)", NONE, p.reader.write(0, 0, 1001));
        due("write(0, 0, 1000)", 1, p.reader.write(0, 0, 1000));
    }

    static void aFaultLeavesAMessageThatWasNotWritten() {
        Probe p = with(TWO);
        p.writeFault(0, 0, "{x @yes}", 2);
        due("count(1)", 0, p.reader.count(1));
        due("message(0, 0)", NONE, p.reader.message(0, 0));
        due("count(5)", 0, p.reader.count(5));
    }

    static void aFaultLeavesAMessageAsItWas() {
        Probe p = with(TWO);
        p.writeDue(0, 0, "{x 300}", 2);
        p.writeFault(0, 1, "{y \"abc\"@", 1);
        due("its plan", 0, p.reader.message(0, 1));
        p.bytesDue(0, 0xd8, 4);
    }

    static void aFaultLeavesAllButTheTape() {
        Watch.unchangedBut("a fault", Watch::nodes, r -> r.write(0, 0, 4), Probe.fault(0, 1), "count(5)", "plans()");
        Watch.unchangedBut("a fault", Watch::failed, r -> r.write(3, 1, 20), Probe.fault(0, 1), "count(5)", "plans()");
    }

    static void aWrittenOneLeavesAllOtherThings() {
        Watch.unchangedBut("write(1, 0, 5)", Watch::nodes, r -> {
            r.plans(0);
            Probe.feed(r, "{x 1}");
            return r.write(1, 0, 5);
        }, 5, "count(5)", "plans()", "message(1", "byteAt(1");
    }

    static void aMessageIsWrittenAnewByAnotherPlan() {
        Probe p = with(TWO);
        p.writeDue(0, 1, "{y \"abcdef\"}", 7);
        p.writeDue(0, 0, "{x 1}", 1);
        due("its plan", 0, p.reader.message(0, 1));
        p.bytesDue(0, 2);
        throwsDue("its old bytes are gone", () -> p.reader.byteAt(0, 1));
    }

    static void noBytesAtAll() {
        Probe p = with("plan;record a x none,y b;record b z none else none;");
        p.writeDue(0, 0, "{x none,y {}}", 0);
        due("it is written", 1, p.reader.count(1));
        due("bytes", 0, p.reader.message(0, 0));
    }

    /** A count of 30 texts takes one byte, and each of these 13. */
    static void fourHundredBytes() {
        Probe p = with("plan;record a x list text;");
        String thirty = joined("\"abcdefghijkl\"", 30);
        p.writeDue(0, 0, "{x [" + thirty + ",\"abcdefgh\"]}", 1 + 30 * 13 + 9);
        due("the last byte", 'h', p.reader.byteAt(0, 399));
        p.writeDue(1, 0, "{x [" + thirty + ",\"abcdefg\"]}", 399);
    }

    static void fourHundredAndOneBytes() {
        Probe p = with("plan;record a x list text;");
        String thirty = joined("\"abcdefghijkl\"", 30);
        p.writeFault(0, 0, "{x [" + thirty + ",\"abcdefghi\"]}@", 7);
        p.writeFault(0, 0, "{x [" + thirty + ",\"abcdefghi\"]} \n @", 7);
        due("count(1)", 0, p.reader.count(1));
    }

    static void farMoreThanFourHundredBytes() {
        Probe p = with("plan;record a x list b;record b r real else 1,s real else 1,t text else \"abcdefghijkl\";");
        p.writeDue(0, 0, "{x [" + joined("{}", 13) + "]}", 1 + 13 * 29);
        p.writeFault(0, 0, "{x [" + joined("{}", 14) + "]}@", 7);
        p.writeFault(0, 0, "{x [" + joined("{}", 200) + "]}@", 7);
        due("the message stays", 378, p.reader.message(0, 0));
    }

    static void anotherFaultGoesAheadOfTooManyBytes() {
        Probe p = with("plan;record a x list text;");
        String many = joined("\"abcdefghijkl\"", 33);
        p.writeFault(0, 0, "{x [" + many + "]@", 1);
        p.writeFault(0, 0, "{x [" + many + "]} @%", 1);
        p.writeFault(0, 0, "{x [" + many + ",@yes]}", 2);
        p.writeFault(0, 0, "{x [" + many + "],@y 1}", 3);
    }
}
