/** Promise 24, count: plans, messages as bits, nodes, pairs found and not, bytes on the tape; what is refused. */
public final class Promise24CountTest extends Edge {
    public static void main(String[] args) {
        run(Promise24CountTest.class);
    }

    static void plansFromNoneToSix() {
        due("none", 0, new ShapeReader().count(0));
        for (int many = 1; many <= 6; many++) {
            due("plans", many, with("plan;record a x int;".repeat(many)).reader.count(0));
        }
    }

    static void fewerPlansThanBefore() {
        Probe p = with("plan;record a x int;".repeat(6));
        p.plansDue("plan;record a x int;", 1);
        due("plans", 1, p.reader.count(0));
    }

    static void messagesAsBits() {
        for (int bits = 0; bits < 16; bits++) {
            Probe p = with("plan;record a x int;");
            for (int message = 0; message < 4; message++) {
                if ((bits >> message & 1) != 0) {
                    p.writeDue(message, 0, "{x 1}", 1);
                }
            }
            due("messages", bits, p.reader.count(1));
        }
    }

    static void aMessageWithoutBytesIsWritten() {
        Probe p = with("plan;record a x int;plan;record a y none;");
        p.writeDue(0, 1, "{y none}", 0);
        p.writeDue(3, 0, "{x 1}", 1);
        p.reader.cut(3, 0);
        due("messages", 9, p.reader.count(1));
    }

    static void nodesFromNoneToFourHundred() {
        Probe p = with("plan;record a x list none,y list none;");
        due("none", 0, p.reader.count(2));
        p.put(0, 0, "{x [" + joined("none", 64) + "],y [" + joined("none", 64) + "]}", 0x90, 3, 0x8a, 3);
        due("read", 400, p.reader.read(0, 0));
        due("nodes", 400, p.reader.count(2));
        p.reader.cut(0, 0);
        due("read", -3, p.reader.read(0, 0));
        due("none", 0, p.reader.count(2));
    }

    static void pairsFoundAndNot() {
        Probe p = with("plan;record a x int;plan;record a x text;");
        p.writeDue(0, 0, "{x 1}", 1);
        int[][] calls = {{0, 0, 1}, {0, 1, 1}, {1, 1, 2}, {0, 2, 2}, {1, 3, 2}};
        for (int[] call : calls) {
            p.reader.read(0, call[0]);
            due("found", call[1], p.reader.count(3));
            due("not found", call[2], p.reader.count(4));
        }
        p.reader.convert(0, 0, 1);
        due("found by convert", 4, p.reader.count(3));
    }

    static void pairsSinceThePlans() {
        Probe p = with("plan;record a x int;");
        p.writeDue(0, 0, "{x 1}", 1);
        p.reader.read(0, 0);
        p.reader.read(0, 0);
        p.plansFault("plan@", 1);
        due("found, behind a fault", 1, p.reader.count(3));
        due("not found, behind a fault", 1, p.reader.count(4));
        p.plansDue("plan;record a x int;", 1);
        due("found", 0, p.reader.count(3));
        due("not found", 0, p.reader.count(4));
    }

    static void bytesFromNoneToAThousand() {
        ShapeReader r = new ShapeReader();
        due("none", 0, r.count(5));
        for (int k = 1; k <= 50; k++) {
            r.feed(0, 0, 0, 0, 0);
            due("bytes", 20 * k, r.count(5));
        }
        r.feed(0, 0, 0, 0, 0);
        due("a thousand", 1000, r.count(5));
        r.plans(1);
        due("none", 0, r.count(5));
    }

    static void noSuchWhat() {
        Probe p = with("plan;record a x int;");
        for (int what : outside(0, 5)) {
            due("count(" + what + ")", NONE, p.reader.count(what));
        }
    }

    static void nothingChanges() {
        for (int what = -1; what <= 6; what++) {
            int w = what;
            long want = Watch.nodes().count(w);
            Watch.unchanged("count(" + w + ")", Watch::nodes, r -> r.count(w), want);
        }
    }
}
