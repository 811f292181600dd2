/** Promise 10, cut: the first n bytes are left; all else is refused. */
public final class Promise10CutTest extends Edge {
    public static void main(String[] args) {
        run(Promise10CutTest.class);
    }

    private static Probe four() {
        Probe p = with("plan;record a x int,y flag,z int;");
        p.writeDue(0, 0, "{x -65,y yes,z 7}", 4);
        return p;
    }

    static void howManyThereWere() {
        for (int n = 0; n <= 4; n++) {
            Probe p = four();
            due("cut(0, " + n + ")", 4, p.reader.cut(0, n));
            due("bytes", n, p.reader.message(0, 0));
        }
    }

    static void allAreLeft() {
        Probe p = four();
        due("cut(0, 4)", 4, p.reader.cut(0, 4));
        p.bytesDue(0, 129, 1, 1, 14);
    }

    static void theFirstAreLeft() {
        Probe p = four();
        due("cut(0, 2)", 4, p.reader.cut(0, 2));
        p.bytesDue(0, 129, 1);
    }

    static void noneIsLeft() {
        Probe p = four();
        due("cut(0, 0)", 4, p.reader.cut(0, 0));
        due("it is still written", 0, p.reader.message(0, 0));
        due("its plan", 0, p.reader.message(0, 1));
        due("count(1)", 1, p.reader.count(1));
        due("cut(0, 0) again", 0, p.reader.cut(0, 0));
        due("cut(0, 1)", NONE, p.reader.cut(0, 1));
    }

    static void whatWasCutOffDoesNotComeBack() {
        Probe p = four();
        due("cut(0, 2)", 4, p.reader.cut(0, 2));
        due("cut(0, 3)", NONE, p.reader.cut(0, 3));
        due("cut(0, 2)", 2, p.reader.cut(0, 2));
    }

    static void aFullMessage() {
        Probe p = with("plan;record a x list text;");
        p.writeDue(0, 0, "{x [" + joined("\"abcdefghijkl\"", 30) + ",\"abcdefgh\"]}", 400);
        due("cut(0, 401)", NONE, p.reader.cut(0, 401));
        due("cut(0, 400)", 400, p.reader.cut(0, 400));
        due("cut(0, 399)", 400, p.reader.cut(0, 399));
        due("cut(0, 400)", NONE, p.reader.cut(0, 400));
    }

    static void notSoMany() {
        for (int n : outside(0, 5)) {
            Watch.unchanged("cut(0, " + n + ")", Watch::nodes, r -> r.cut(0, n), NONE);
        }
    }

    static void noSuchMessage() {
        for (int message : outside(0, 3)) {
            Watch.unchanged("cut(" + message + ", 0)", Watch::nodes, r -> r.cut(message, 0), NONE);
        }
    }

    static void notWritten() {
        Watch.unchanged("cut(2, 0)", Watch::nodes, r -> r.cut(2, 0), NONE);
    }

    static void allElseStays() {
        Watch.unchangedBut("cut(0, 1)", Watch::nodes, r -> r.cut(0, 1), 5, "byteAt(0, ", "message(0, 0)");
        Watch.unchangedBut("cut(0, 0)", Watch::failed, r -> r.cut(0, 0), 5, "byteAt(0, ", "message(0, 0)");
    }

    static void aMessageWrittenAnewHasItsOwnSize() {
        Probe p = four();
        p.reader.cut(0, 1);
        p.writeDue(0, 0, "{x -65,y yes,z 7}", 4);
        p.bytesDue(0, 129, 1, 1, 14);
    }
}
