/** Promise 7, message: bytes and plan of a message, and what is refused. */
public final class Promise07MessageTest extends Edge {
    private static final String PLANS = "plan;record a x text;plan;record b y none;";

    public static void main(String[] args) {
        run(Promise07MessageTest.class);
    }

    static void noBytesAndSome() {
        Probe p = with(PLANS);
        p.writeDue(0, 1, "{y none}", 0);
        p.writeDue(3, 0, "{x \"abc\"}", 4);
        due("no bytes", 0, p.reader.message(0, 0));
        due("some", 4, p.reader.message(3, 0));
    }

    static void fourHundredBytes() {
        Probe p = with("plan;record a x list text;");
        p.writeDue(2, 0, "{x [" + joined("\"abcdefghijkl\"", 30) + ",\"abcdefgh\"]}", 400);
        due("bytes", 400, p.reader.message(2, 0));
    }

    static void thePlanOfEach() {
        Probe p = with("plan;record a x none;".repeat(6));
        p.writeDue(0, 0, "{x none}", 0);
        p.writeDue(1, 5, "{x none}", 0);
        due("the first plan", 0, p.reader.message(0, 1));
        due("the last plan", 5, p.reader.message(1, 1));
    }

    static void noSuchMessage() {
        Probe p = with(PLANS);
        for (int m = 0; m < 4; m++) {
            p.writeDue(m, 1, "{y none}", 0);
        }
        for (int message : outside(0, 3)) {
            due("message(" + message + ", 0)", NONE, p.reader.message(message, 0));
            due("message(" + message + ", 1)", NONE, p.reader.message(message, 1));
        }
    }

    static void notWritten() {
        for (int written = 0; written < 4; written++) {
            Probe p = with(PLANS);
            p.writeDue(written, 1, "{y none}", 0);
            for (int m = 0; m < 4; m++) {
                due("message(" + m + ", 0)", m == written ? 0 : NONE, p.reader.message(m, 0));
                due("message(" + m + ", 1)", m == written ? 1 : NONE, p.reader.message(m, 1));
            }
        }
    }

    static void noSuchWhat() {
        Probe p = with(PLANS);
        p.writeDue(0, 0, "{x \"abc\"}", 4);
        for (int what : outside(0, 1)) {
            due("message(0, " + what + ")", NONE, p.reader.message(0, what));
        }
    }

    static void nothingChanges() {
        Watch.unchanged("message(0, 0)", Watch::nodes, r -> r.message(0, 0), 5);
        Watch.unchanged("message(2, 0)", Watch::nodes, r -> r.message(2, 0), NONE);
    }
}
