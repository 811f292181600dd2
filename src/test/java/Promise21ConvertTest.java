/** Promise 21, convert: what is read is written by the reader's plan; 400 bytes at most; what is refused. */
public final class Promise21ConvertTest extends Edge {
    private static final String PLANS = "plan;record a x int,y text,z list int;"
            + "plan;record a n flag else yes,z either text or list real,x either flag or none or long,w either list b or none else [];"
            + "record b v int;plan;record a q flag;";
    private static final String VALUE = "{x 3,y \"ab\",z [1,-2]}";

    public static void main(String[] args) {
        run(Promise21ConvertTest.class);
    }

    private static Probe written() {
        Probe p = with(PLANS);
        p.writeDue(0, 0, VALUE, 7);
        return p;
    }

    private static void otherBytes(Probe p, int message) {
        p.bytesDue(message, 1, 2, 4, 0x3f, 0xf0, 0, 0, 0, 0, 0, 0, 0xc0, 0, 0, 0, 0, 0, 0, 0, 4, 6, 0, 0);
    }

    static void intoEachOtherMessage() {
        for (int to = 1; to < 4; to++) {
            Probe p = written();
            due("convert", 23, p.reader.convert(0, 1, to));
            otherBytes(p, to);
            due("its plan", 1, p.reader.message(to, 1));
            due("messages", 1 | 1 << to, p.reader.count(1));
            due("the one it was read of stays", 7, p.reader.message(0, 0));
            due("by its plan", 0, p.reader.message(0, 1));
        }
    }

    static void intoItself() {
        Probe p = written();
        due("convert", 23, p.reader.convert(0, 1, 0));
        otherBytes(p, 0);
        due("its plan", 1, p.reader.message(0, 1));
        due("messages", 1, p.reader.count(1));
        due("convert again", 23, p.reader.convert(0, 1, 0));
        otherBytes(p, 0);
    }

    static void byItsOwnPlan() {
        Probe p = written();
        due("convert", 7, p.reader.convert(0, 0, 3));
        p.bytesDue(3, 6, 4, 'a', 'b', 4, 2, 3);
        due("alike", 1, p.reader.alike(0, 3, 0));
    }

    static void overAnotherMessage() {
        Probe p = written();
        p.writeDue(2, 0, "{x 1,y \"abcdefghijkl\",z [" + joined("1", 50) + "]}", 65);
        due("convert", 23, p.reader.convert(0, 1, 2));
        otherBytes(p, 2);
        throwsDue("its old bytes are gone", () -> p.reader.byteAt(2, 23));
    }

    static void nodesAreAsReadWouldHaveThem() {
        Probe p = written();
        due("convert", 23, p.reader.convert(0, 1, 2));
        due("count(2)", 7, p.reader.count(2));
        p.nodeDue(0, 7, NONE, 0, 4, 0, 0);
        p.nodeDue(1, 1, 0, 0, 0, 1, 1);
        p.nodeDue(2, 6, 0, 1, 2, 0, 0);
        p.nodeDue(4, 4, 2, 1, 0, 0, Double.doubleToLongBits(-2.0));
        p.nodeDue(5, 3, 0, 2, 0, 0, 3);
        p.nodeDue(6, 6, 0, 3, 0, 1, 0);
    }

    static void noMatch() {
        Watch.unchangedBut("convert(0, 2, 1)", Watch::nodes, r -> r.convert(0, 2, 1), -2,
                "count(2)", "count(3)", "count(4)", "kept", "node", "value", "letter");
        Probe p = written();
        due("read", 4 + 2, p.reader.read(0, 0));
        due("convert", -2, p.reader.convert(0, 2, 1));
        due("nodes are none", 0, p.reader.count(2));
        due("messages", 1, p.reader.count(1));
    }

    static void aFailure() {
        Probe p = written();
        p.writeDue(1, 0, "{x 1,y \"\",z []}", 3);
        due("read", 6, p.reader.read(0, 0));
        p.reader.cut(0, 6);
        due("convert", -3, p.reader.convert(0, 1, 1));
        p.failureDue(11, 6, 2, 101);
        due("nodes are none", 0, p.reader.count(2));
        p.bytesDue(1, 2, 0, 0);
        due("convert", -3, p.reader.convert(0, 1, 3));
        due("messages", 3, p.reader.count(1));
    }

    static void aFailureIntoItself() {
        Probe p = written();
        p.reader.cut(0, 6);
        due("convert", -3, p.reader.convert(0, 1, 0));
        p.bytesDue(0, 6, 4, 'a', 'b', 4, 2);
        due("its plan", 0, p.reader.message(0, 1));
    }

    static void noSuchMessage() {
        for (int message : outside(0, 3)) {
            Watch.unchanged("convert(" + message + ", 1, 2)", Watch::nodes, r -> r.convert(message, 1, 2), NONE);
            Watch.unchanged("convert(" + message + ", 1, 2)", Watch::failed, r -> r.convert(message, 1, 2), NONE);
        }
    }

    static void aMessageThatWasNotWritten() {
        Watch.unchanged("convert(2, 1, 2)", Watch::nodes, r -> r.convert(2, 1, 2), NONE);
        Watch.unchanged("convert(2, 1, 0)", Watch::failed, r -> r.convert(2, 1, 0), NONE);
    }

    static void noSuchPlan() {
        for (int plan : outside(0, 2)) {
            Watch.unchanged("convert(0, " + plan + ", 2)", Watch::nodes, r -> r.convert(0, plan, 2), NONE);
            Watch.unchanged("convert(0, " + plan + ", 2)", Watch::failed, r -> r.convert(0, plan, 2), NONE);
        }
    }

    static void noSuchMessageToWrite() {
        for (int to : outside(0, 3)) {
            Watch.unchanged("convert(0, 1, " + to + ")", Watch::nodes, r -> r.convert(0, 1, to), NONE);
            Watch.unchanged("convert(0, 1, " + to + ")", Watch::failed, r -> r.convert(0, 1, to), NONE);
        }
    }

    /** A count, and of each int eight bytes; the text's letters fill the rest. */
    private static Probe longOne(int letters) {
        Probe p = with("plan;record a x list int,t text;plan;record a x list real,t text;");
        p.writeDue(0, 0, "{x [" + joined("1", 49) + "],t \"" + "a".repeat(letters) + "\"}", 51 + letters);
        p.writeDue(1, 0, "{x [4],t \"\"}", 3);
        return p;
    }

    static void threeHundredAndNinetyNineBytes() {
        Probe p = longOne(5);
        due("convert", 399, p.reader.convert(0, 1, 1));
        due("its bytes", 399, p.reader.message(1, 0));
    }

    static void fourHundredBytes() {
        Probe p = longOne(6);
        due("convert", 400, p.reader.convert(0, 1, 1));
        due("its bytes", 400, p.reader.message(1, 0));
        due("the last one", 'a', p.reader.byteAt(1, 399));
        due("read of it", 52, p.reader.read(1, 1));
    }

    static void fourHundredAndOneBytes() {
        Probe p = longOne(7);
        due("convert", -4, p.reader.convert(0, 1, 1));
        p.bytesDue(1, 2, 8, 0);
        due("its plan", 0, p.reader.message(1, 1));
        due("nodes are as read() would have them", 52, p.reader.count(2));
        due("messages", 3, p.reader.count(1));
        due("the pair is kept", 1, p.reader.kept(0));
    }

    static void farMoreThanFourHundredBytes() {
        Probe p = with("plan;record a x list int;plan;record a x list real;");
        p.writeDue(0, 0, "{x [" + joined("1", 200) + "]}", 202);
        due("convert", -4, p.reader.convert(0, 1, 0));
        due("the message stays", 202, p.reader.message(0, 0));
        due("its plan stays", 0, p.reader.message(0, 1));
        due("convert into one that was not written", -4, p.reader.convert(0, 1, 3));
        due("messages", 1, p.reader.count(1));
        due("nodes", 202, p.reader.count(2));
    }

    static void noBytesAtAll() {
        Probe p = with("plan;record a x int;plan;record a y none else none;");
        p.writeDue(0, 0, "{x 3}", 1);
        due("convert", 0, p.reader.convert(0, 1, 2));
        due("bytes", 0, p.reader.message(2, 0));
        due("messages", 5, p.reader.count(1));
    }

    static void theNumberOfABranchIsTheReaders() {
        Probe p = with("plan;record a x either int or text;plan;record a x either flag or text or none or long;");
        p.writeDue(0, 0, "{x 5}", 2);
        p.writeDue(1, 0, "{x \"\"}", 2);
        due("convert", 2, p.reader.convert(0, 1, 2));
        p.bytesDue(2, 6, 10);
        due("convert", 2, p.reader.convert(1, 1, 2));
        p.bytesDue(2, 2, 0);
    }

    static void numbersAreWrittenInTheFewestBytes() {
        Probe p = with("plan;record a x long,t text;");
        p.put(0, 0, "{x 5,t \"abcdefghijkl\"}", 138, 128, 128, 0, 128, 0);
        due("convert", 2, p.reader.convert(0, 0, 1));
        p.bytesDue(1, 10, 0);
    }

    static void theFarthestLongs() {
        Probe p = with("plan;record a x long,t text;");
        p.put(0, 0, "{x 5,t \"abcdefghijkl\"}", 255, 255, 255, 255, 255, 255, 255, 255, 255, 1, 0);
        due("convert", 11, p.reader.convert(0, 0, 1));
        p.bytesDue(1, 255, 255, 255, 255, 255, 255, 255, 255, 255, 1, 0);
        p.put(0, 0, "{x 5,t \"abcdefghijkl\"}", 254, 255, 255, 255, 255, 255, 255, 255, 255, 1, 0);
        due("convert", 11, p.reader.convert(0, 0, 1));
        p.bytesDue(1, 254, 255, 255, 255, 255, 255, 255, 255, 255, 1, 0);
    }

    static void theDeepestValues() {
        Probe p = with("plan;record n next either none or n;");
        p.writeDue(0, 0, "{next ".repeat(30) + "none" + "}".repeat(30), 30);
        due("convert", 30, p.reader.convert(0, 0, 1));
        due("the last byte", 0, p.reader.byteAt(1, 29));
        due("the byte in front of it", 2, p.reader.byteAt(1, 28));
        due("alike", 1, p.reader.alike(0, 1, 0));
    }

    static void aPairIsUsed() {
        Probe p = written();
        due("convert", 23, p.reader.convert(0, 1, 2));
        due("convert", -2, p.reader.convert(0, 2, 2));
        due("convert", 23, p.reader.convert(2, 1, 3));
        p.keptDue(11, 2, 1);
        due("found", 0, p.reader.count(3));
        due("not found", 3, p.reader.count(4));
    }
}
