import java.lang.management.ManagementFactory;

/** What a run takes of the room that it has, and that every call ends soon. */
public final class RoomTest {
    public static void main(String[] args) {
        room();
        emptyRecords();
        readAgainAndAgain();
        Probe.finish("RoomTest");
    }

    private static long made() {
        return ((com.sun.management.ThreadMXBean) ManagementFactory.getThreadMXBean())
                .getThreadAllocatedBytes(Thread.currentThread().getId());
    }

    private static void must(String what, boolean holds) {
        Probe.due(what, 1, holds ? 1 : 0);
    }

    private static void room() {
        Probe warm = used();
        long before = made();
        ShapeReader one = new ShapeReader();
        long object = made() - before;
        must("an object takes " + object + " bytes", object < 300_000 && one.count(0) == 0);
        before = made();
        int sum = 0;
        for (int k = 0; k < 50; k++) {
            sum += warm.reader.read(0, 1) + warm.reader.convert(0, 1, 1) + warm.reader.alike(0, 1, 1)
                    + warm.reader.matches(k % 3, k % 2) + warm.reader.miss(0, 2, 0, 0) + warm.reader.readers(0, 1)
                    + warm.reader.read(0, 2) + warm.reader.feed(k, k, k, k, k) + warm.reader.write(2, 0, 7)
                    + warm.reader.feed(k, k, k, k, k) + warm.reader.plans(3) + warm.reader.failure(0)
                    + warm.reader.record(0, 0, 1) + warm.reader.field(0, 0, 0, 5) + warm.reader.kept(0);
            sum += warm.reader.read(0, 1) + warm.reader.node(1, 1) + warm.reader.letter(3, 0);
        }
        long calls = made() - before;
        must("750 calls make " + calls + " bytes, sum " + sum, calls < 20_000);
    }

    private static Probe used() {
        Probe p = new Probe();
        p.plansDue("plan;record a x list b;record b y int,z text;plan;record a x list b,w real else 1.5;record b z text,y real;"
                + "plan;record a x list b else [],v int;record b y int;", 3);
        p.writeDue(0, 0, "{x [{y 1,z \"a\"},{y 2,z \"b\"}]}", 7);
        Probe.due("read", 9, p.reader.read(0, 1));
        return p;
    }

    /** Records of no bytes at all, eight in each of six levels, sixty-three times: billions of values to skip. */
    private static void emptyRecords() {
        StringBuilder text = new StringBuilder("plan;");
        for (char r = 'a'; r <= 'f'; r++) {
            text.append("record ").append(r);
            for (char f = 'a'; f <= (r == 'a' ? 'b' : 'h'); f++) {
                String type = r == 'a' ? "list list b" : r == 'f' ? "none" : String.valueOf((char) (r + 1));
                text.append(f == 'a' ? " " : ",").append(f).append(' ').append(type);
            }
            text.append(';');
        }
        text.append("plan;record a z int else 1;plan;record a b list list b;record b h int else 2;");
        Probe p = new Probe();
        p.plansDue(text.toString(), 3);
        String lists = "[" + "[],".repeat(62) + "[]]";
        p.writeDue(0, 0, "{a " + lists + ",b " + lists + "}", 128);
        for (int i = 0; i < 128; i++) {
            if (i != 0 && i != 64) {
                p.reader.spoil(0, i, 126);
            }
        }
        Probe.due("all of it skipped", 2, p.reader.read(0, 1));
        Probe.due("too many nodes", -3, p.reader.read(0, 0));
        Probe.due("too many nodes", 15, p.reader.failure(0));
        Probe.due("records that are no ints", -2, p.reader.read(0, 2));
        p.plansDue("plan;record a x list b;record b p b,q b;plan;record a y int else 1;", 2);
        p.writeDue(0, 0, "{x []}", 1);
        p.reader.spoil(0, 0, 2);
        Probe.due("a ring without bytes", -3, p.reader.read(0, 1));
        Probe.due("lies too deep", 16, p.reader.failure(0));
        Probe.due("its path", 31, p.reader.failure(1));
        Probe.due("its byte", 1, p.reader.failure(2));
        Probe.due("a ring without bytes", -3, p.reader.read(0, 0));
        Probe.due("lies too deep", 16, p.reader.failure(0));
    }

    /** Eight fields that were one, in a ring: each would be read eight times at every level. */
    private static void readAgainAndAgain() {
        StringBuilder text = new StringBuilder("plan;record n x either none or n;plan;record n ");
        for (char f = 'a'; f <= 'h'; f++) {
            text.append(f == 'a' ? "" : ",").append(f).append(" either none or n was x");
        }
        Probe p = new Probe();
        p.plansDue(text + ";", 2);
        p.writeDue(0, 0, "{x ".repeat(30) + "none" + "}".repeat(30), 30);
        Probe.due("too many nodes", -3, p.reader.read(0, 1));
        Probe.due("too many nodes", 15, p.reader.failure(0));
        p.writeDue(0, 0, "{x {x none}}", 2);
        Probe.due("nodes", 1 + 8 + 64, p.reader.read(0, 1));
    }
}
