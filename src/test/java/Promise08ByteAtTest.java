/** Promise 8, byteAt: each byte of a message, 0 to 255; all else throws. */
public final class Promise08ByteAtTest extends Edge {
    public static void main(String[] args) {
        run(Promise08ByteAtTest.class);
    }

    private static void none(Probe p, int message, int i) {
        throwsDue("byteAt(" + message + ", " + i + ")", () -> p.reader.byteAt(message, i));
    }

    static void theFirstAndTheLast() {
        Probe p = with("plan;record a x int,y flag,z int;");
        p.writeDue(0, 0, "{x -65,y yes,z 7}", 4);
        p.bytesDue(0, 129, 1, 1, 14);
    }

    static void noSuchByte() {
        Probe p = with("plan;record a x int,y flag,z int;");
        p.writeDue(0, 0, "{x -65,y yes,z 7}", 4);
        for (int i : outside(0, 3)) {
            none(p, 0, i);
        }
    }

    static void noByteOfAMessageWithoutBytes() {
        Probe p = with("plan;record a x none;");
        p.writeDue(0, 0, "{x none}", 0);
        none(p, 0, 0);
    }

    static void theFourHundredthByte() {
        Probe p = with("plan;record a x list text;");
        String text = "{x [" + joined("\"abcdefghijkl\"", 30) + ",\"abcdefgh\"]}";
        p.writeDue(0, 0, text, 400);
        p.writeDue(1, 0, "{x []}", 1);
        due("the last", 'h', p.reader.byteAt(0, 399));
        none(p, 0, 400);
        p.writeDue(3, 0, text, 400);
        due("the last of the last", 'h', p.reader.byteAt(3, 399));
        none(p, 3, 400);
    }

    static void allBytesFrom0To255() {
        Probe p = with("plan;record a x flag;");
        p.writeDue(0, 0, "{x no}", 1);
        for (int b = 0; b < 256; b += 5) {
            p.reader.spoil(0, 0, b);
            due("a byte", b, p.reader.byteAt(0, 0));
            p.reader.spoil(0, 0, b);
        }
    }

    static void noSuchMessage() {
        Probe p = with("plan;record a x flag;");
        for (int m = 0; m < 4; m++) {
            p.writeDue(m, 0, "{x no}", 1);
        }
        for (int message : outside(0, 3)) {
            none(p, message, 0);
        }
    }

    static void notWritten() {
        Probe p = with("plan;record a x flag;");
        p.writeDue(1, 0, "{x no}", 1);
        none(p, 0, 0);
        due("the one that is", 0, p.reader.byteAt(1, 0));
        none(p, 2, 0);
        none(p, 3, 0);
    }

    static void whatWasCutOff() {
        Probe p = with("plan;record a x text;");
        p.writeDue(0, 0, "{x \"ab\"}", 3);
        p.reader.cut(0, 2);
        due("the last that is left", 'a', p.reader.byteAt(0, 1));
        none(p, 0, 2);
    }

    static void nothingChanges() {
        Watch.unchanged("byteAt(0, 0)", Watch::nodes, r -> r.byteAt(0, 0), 5);
        Watch.unchanged("byteAt(0, 5)", Watch::nodes, r -> r.byteAt(0, 5), Watch.THROWS);
        Watch.unchanged("byteAt(2, 0)", Watch::failed, r -> r.byteAt(2, 0), Watch.THROWS);
    }
}
