/** Promise 9, spoil: a byte becomes itself exclusive-or x's lowest 8 bits; all else is refused. */
public final class Promise09SpoilTest extends Edge {
    public static void main(String[] args) {
        run(Promise09SpoilTest.class);
    }

    private static Probe four() {
        Probe p = with("plan;record a x int,y flag,z int;");
        p.writeDue(0, 0, "{x -65,y yes,z 7}", 4);
        return p;
    }

    static void whatItWasIsAnswered() {
        Probe p = four();
        due("spoil", 129, p.reader.spoil(0, 0, 3));
        due("spoil", 130, p.reader.spoil(0, 0, 3));
        due("spoil", 129, p.reader.spoil(0, 0, 0));
        due("as it was", 129, p.reader.byteAt(0, 0));
    }

    static void theLowestEightBitsAlone() {
        int[] xs = {0, 1, 127, 128, 255, 256, 257, 511, -1, -2, -256, MIN, MAX, 0x7fffff00, 0x12345678};
        for (int x : xs) {
            Probe p = four();
            due("spoil by " + x, 14, p.reader.spoil(0, 3, x));
            due("spoilt by " + x, 14 ^ x & 255, p.reader.byteAt(0, 3));
        }
    }

    static void itAloneIsAnotherOne() {
        for (int i = 0; i < 4; i++) {
            Probe p = four();
            p.writeDue(1, 0, "{x -65,y yes,z 7}", 4);
            int[] want = {129, 1, 1, 14};
            p.reader.spoil(0, i, 0xaa);
            want[i] ^= 0xaa;
            p.bytesDue(0, want);
            p.bytesDue(1, 129, 1, 1, 14);
        }
    }

    static void theFirstAndTheLastOfFourHundred() {
        Probe p = with("plan;record a x list text;");
        String text = "{x [" + joined("\"abcdefghijkl\"", 30) + ",\"abcdefgh\"]}";
        p.writeDue(0, 0, text, 400);
        p.writeDue(1, 0, text, 400);
        due("the first", 62, p.reader.spoil(0, 0, 255));
        due("the last", 'h', p.reader.spoil(0, 399, 255));
        due("none behind", NONE, p.reader.spoil(0, 400, 255));
        due("the first of the next", 62, p.reader.byteAt(1, 0));
    }

    static void noSuchByte() {
        for (int i : outside(0, 4)) {
            Watch.unchanged("spoil(0, " + i + ", 255)", Watch::nodes, r -> r.spoil(0, i, 255), NONE);
        }
    }

    static void noByteOfAMessageWithoutBytes() {
        Probe p = with("plan;record a x none;");
        p.writeDue(0, 0, "{x none}", 0);
        due("spoil", NONE, p.reader.spoil(0, 0, 1));
        due("bytes", 0, p.reader.message(0, 0));
    }

    static void noSuchMessage() {
        for (int message : outside(0, 3)) {
            Watch.unchanged("spoil(" + message + ", 0, 255)", Watch::nodes, r -> r.spoil(message, 0, 255), NONE);
        }
    }

    static void notWritten() {
        Watch.unchanged("spoil(2, 0, 255)", Watch::nodes, r -> r.spoil(2, 0, 255), NONE);
    }

    static void whatWasCutOff() {
        Probe p = four();
        p.reader.cut(0, 3);
        due("spoil", NONE, p.reader.spoil(0, 3, 1));
        due("spoil", 1, p.reader.spoil(0, 2, 0));
    }

    static void allElseStays() {
        Watch.unchangedBut("spoil(0, 0, 1)", Watch::nodes, r -> r.spoil(0, 0, 1), 5, "byteAt(0, 0)");
        Watch.unchangedBut("spoil(0, 4, -1)", Watch::failed, r -> r.spoil(0, 4, -1), 0, "byteAt(0, 4)");
    }
}
