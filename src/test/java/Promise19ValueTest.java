/** Promise 19, value: flags, ints, longs, a real's bits up to their least and greatest, 0 of others; all else throws. */
public final class Promise19ValueTest extends Edge {
    public static void main(String[] args) {
        run(Promise19ValueTest.class);
    }

    private static void value(String type, String text, long want) {
        Probe p = with("plan;record a x " + type + ";");
        due("write", 1, p.write(0, 0, "{x " + text + "}") >= 0 ? 1 : 0);
        p.reader.read(0, 0);
        due(type + " " + text, want, p.reader.value(1));
    }

    static void flags() {
        value("flag", "yes", 1);
        value("flag", "no", 0);
    }

    static void ints() {
        int[] numbers = {0, 1, -1, 63, 64, -64, -65, 8191, 8192, 1048576, 134217728, MAX, MAX - 1, MIN, MIN + 1};
        for (int number : numbers) {
            value("int", String.valueOf(number), number);
        }
    }

    static void longs() {
        long[] numbers = {0, -1, 2147483648L, -2147483649L, 4294967295L, 4294967296L, 34359738367L, 34359738368L,
            4398046511104L, 562949953421312L, 72057594037927936L, 999999999999999999L, -999999999999999999L};
        for (long number : numbers) {
            value("long", String.valueOf(number), number);
        }
    }

    static void theGreatestAndTheLeastLong() {
        Probe p = with("plan;record a x long,t text;");
        p.put(0, 0, "{x 1,t \"abcdefghijkl\"}", 254, 255, 255, 255, 255, 255, 255, 255, 255, 1, 0);
        due("read", 3, p.reader.read(0, 0));
        due("the greatest", Long.MAX_VALUE, p.reader.value(1));
        p.put(0, 0, "{x 1,t \"abcdefghijkl\"}", 255, 255, 255, 255, 255, 255, 255, 255, 255, 1, 0);
        due("read", 3, p.reader.read(0, 0));
        due("the least", Long.MIN_VALUE, p.reader.value(1));
    }

    static void reals() {
        value("real", "0.0", 0);
        value("real", "-0.0", Long.MIN_VALUE);
        value("real", "1", Double.doubleToLongBits(1.0));
        value("real", "-0.1", Double.doubleToLongBits(-(1 / 10.0)));
        value("real", "999999999999999999.9", Double.doubleToLongBits(999999999999999999L + 9 / 10.0));
    }

    static void nought() {
        value("none", "none", 0);
        value("text", "\"abc\"", 0);
        value("list int", "[5]", 0);
        value("b;record b y int", "{y 5}", 0);
        Probe p = with("plan;record a x int;");
        p.writeDue(0, 0, "{x 5}", 1);
        due("read", 2, p.reader.read(0, 0));
        due("the root", 0, p.reader.value(0));
    }

    static void noSuchNode() {
        Probe p = with("plan;record a x int,y int;");
        p.writeDue(0, 0, "{x 5,y 6}", 2);
        due("read", 3, p.reader.read(0, 0));
        due("the last one", 6, p.reader.value(2));
        for (int i : outside(0, 2)) {
            throwsDue("value(" + i + ")", () -> p.reader.value(i));
        }
    }

    static void noneWithoutNodes() {
        Probe p = with("plan;record a x int;plan;record a x text;");
        throwsDue("value(0)", () -> p.reader.value(0));
        p.writeDue(0, 0, "{x 5}", 1);
        due("read", 2, p.reader.read(0, 0));
        due("read", -2, p.reader.read(0, 1));
        throwsDue("value(0)", () -> p.reader.value(0));
        throwsDue("value(1)", () -> p.reader.value(1));
    }

    static void nothingChanges() {
        Watch.unchanged("value(1)", Watch::nodes, r -> r.value(1), 0);
        Watch.unchanged("value(4)", Watch::nodes, r -> r.value(4), Watch.THROWS);
        Watch.unchanged("value(0)", Watch::failed, r -> r.value(0), Watch.THROWS);
    }
}
