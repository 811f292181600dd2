/** Promise 16, the kinds of failures: the last bytes that are still taken, and the first ones that are not. */
public final class Promise16KindsTest extends Edge {
    private static final int M = 128;
    /** A text of twelve letters behind it, so that there are bytes enough to put others there. */
    private static final String ROOM = ",t \"abcdefghijkl\",u \"abcdefghijkl\"}";

    public static void main(String[] args) {
        run(Promise16KindsTest.class);
    }

    /** By plan 0, itself; plan 1 has the field not; plan 2 has it twice. */
    private static Probe spoilt(String type, String value, int... bytes) {
        Probe p = with("plan;record a x " + type + ",t text,u text;record b y flag,z int;"
                + "plan;record a s int else 1;plan;record a x " + type + ",q " + type + " was x;record b y flag,z int;");
        p.put(0, 0, "{x " + value + ROOM, bytes);
        return p;
    }

    private static void failing(Probe p, int kind, int at, int... path) {
        for (int plan = 0; plan < 3; plan++) {
            due("read by " + plan, -3, p.reader.read(0, plan));
            p.failureDue(kind, at, path);
        }
    }

    private static void taken(Probe p, int sort, long value) {
        due("skipped", 2, p.reader.read(0, 1));
        int nodes = p.reader.read(0, 0);
        due("read", 1, nodes > 0 ? 1 : 0);
        due("its sort", sort, p.reader.node(1, 0));
        due("its value", value, p.reader.value(1));
    }

    private static int[] joint(int[] first, int... rest) {
        int[] all = new int[first.length + rest.length];
        System.arraycopy(first, 0, all, 0, first.length);
        System.arraycopy(rest, 0, all, first.length, rest.length);
        return all;
    }

    static void flagsThatAre0And1() {
        taken(spoilt("flag", "yes", 0, 0, 0), 1, 0);
        taken(spoilt("flag", "yes", 1, 0, 0), 1, 1);
    }

    static void flagsThatAreNot() {
        int[] wrong = {2, 3, 127, 128, 254, 255};
        for (int b : wrong) {
            failing(spoilt("flag", "yes", b, 0, 0), 12, 0, 0);
        }
    }

    static void theGreatestAndTheLeastInt() {
        taken(spoilt("int", "1", 254, 255, 255, 255, 15, 0, 0), 2, MAX);
        taken(spoilt("int", "1", 255, 255, 255, 255, 15, 0, 0), 2, MIN);
    }

    static void oneMoreThanTheGreatestInt() {
        failing(spoilt("int", "1", M, M, M, M, 16, 0, 0), 12, 0, 0);
    }

    static void oneLessThanTheLeastInt() {
        failing(spoilt("int", "1", 129, M, M, M, 16, 0, 0), 12, 0, 0);
    }

    static void noIntIsALong() {
        taken(spoilt("long", "1", M, M, M, M, 16, 0, 0), 3, 2147483648L);
        taken(spoilt("long", "1", 129, M, M, M, 16, 0, 0), 3, -2147483649L);
    }

    static void anIntThatIsReadAsALongMustBeAnInt() {
        Probe p = with("plan;record a x int,t text;plan;record a x long;plan;record a x real;");
        p.put(0, 0, "{x 1,t \"abcdefghijkl\"}", M, M, M, M, 16, 0);
        for (int plan = 0; plan < 3; plan++) {
            due("read by " + plan, -3, p.reader.read(0, plan));
            p.failureDue(12, 0, 0);
        }
    }

    /** The greatest and the least long: nine bytes of seven bits, and one bit in the tenth. */
    static void aTenthByteOf1() {
        taken(spoilt("long", "1", 254, 255, 255, 255, 255, 255, 255, 255, 255, 1, 0, 0), 3, Long.MAX_VALUE);
        taken(spoilt("long", "1", 255, 255, 255, 255, 255, 255, 255, 255, 255, 1, 0, 0), 3, Long.MIN_VALUE);
    }

    static void aTenthByteOf0() {
        taken(spoilt("long", "1", M, M, M, M, M, M, M, M, M, 0, 0, 0), 3, 0);
        taken(spoilt("int", "1", 130, M, M, M, M, M, M, M, M, 0, 0, 0), 2, 1);
    }

    static void aTenthByteAbove1() {
        int[] wrong = {2, 3, 127};
        for (int b : wrong) {
            failing(spoilt("long", "1", M, M, M, M, M, M, M, M, M, b, 0, 0), 12, 0, 0);
            failing(spoilt("int", "1", M, M, M, M, M, M, M, M, M, b, 0, 0), 12, 0, 0);
        }
    }

    static void anEleventhByte() {
        failing(spoilt("long", "1", M, M, M, M, M, M, M, M, M, M, 0, 0, 0), 12, 0, 0);
        failing(spoilt("long", "1", M, M, M, M, M, M, M, M, M, 129, 0, 0, 0), 12, 0, 0);
        failing(spoilt("long", "1", 255, 255, 255, 255, 255, 255, 255, 255, 255, 255, 255, 255), 12, 0, 0);
    }

    static void aTenthByteThatGoesOnIsTheLastThatIsLookedAt() {
        failing(spoilt("long", "1", M, M, M, M, M, M, M, M, M, M), 12, 0, 0);
        failing(spoilt("long", "1", M, M, M, M, M, M, M, M, M), 11, 9, 0);
    }

    static void numbersEndTooSoon() {
        String[] types = {"int", "long"};
        for (String type : types) {
            failing(spoilt(type, "1"), 11, 0, 0);
            failing(spoilt(type, "1", M), 11, 1, 0);
            failing(spoilt(type, "1", 255, 255, 255, 255), 11, 4, 0);
        }
    }

    static void aFlagEndsTooSoon() {
        failing(spoilt("flag", "yes"), 11, 0, 0);
    }

    static void aRealEndsTooSoon() {
        for (int many = 0; many < 8; many++) {
            failing(spoilt("real", "1", new int[many]), 11, many, 0);
        }
        taken(spoilt("real", "1", 0, 0, 0, 0, 0, 0, 0, 1, 0, 0), 4, 1);
    }

    static void anyBitsAreAReal() {
        taken(spoilt("real", "1", 0x7f, 0xf0, 0, 0, 0, 0, 0, 0, 0, 0), 4, 0x7ff0000000000000L);
        taken(spoilt("real", "1", 0xff, 0xf0, 0, 0, 0, 0, 0, 0, 0, 0), 4, 0xfff0000000000000L);
        taken(spoilt("real", "1", 0x7f, 0xef, 255, 255, 255, 255, 255, 255, 0, 0), 4, 0x7fefffffffffffffL);
    }

    static void bitsOfNoNumberAreThoseThatDoubleTells() {
        taken(spoilt("real", "1", 0x7f, 0xf0, 0, 0, 0, 0, 0, 1, 0, 0), 4, 0x7ff8000000000000L);
        taken(spoilt("real", "1", 255, 255, 255, 255, 255, 255, 255, 255, 0, 0), 4, 0x7ff8000000000000L);
    }

    static void aTextOfNoLettersAndOfTwelve() {
        taken(spoilt("text", "\"\"", 0, 0, 0), 5, 0);
        Probe p = spoilt("text", "\"abcdefghijkl\"", 24, 'a', 'z', 'a', 'z', 'a', 'z', 'a', 'z', 'a', 'z', 'a', 'z', 0, 0);
        taken(p, 5, 0);
        due("its letters", 12, p.reader.node(1, 3));
        p.lettersDue(1, "azazazazazaz");
    }

    static void aTextOfThirteenLetters() {
        failing(spoilt("text", "\"\"", 26, 'a', 'a', 'a', 'a', 'a', 'a', 'a', 'a', 'a', 'a', 'a', 'a', 'a', 0, 0), 12, 0, 0);
        failing(spoilt("text", "\"\"", 26), 12, 0, 0);
    }

    static void aTextOfFewerThanNoLetters() {
        failing(spoilt("text", "\"\"", 1, 0, 0), 12, 0, 0);
        failing(spoilt("text", "\"\"", 255, 255, 255, 255, 15, 0, 0), 12, 0, 0);
    }

    static void countsThatAreNoIntOrOfTooManyBytes() {
        String[] types = {"text", "list flag", "either none or flag"};
        String[] values = {"\"\"", "[]", "none"};
        for (int k = 0; k < types.length; k++) {
            failing(spoilt(types[k], values[k], M, M, M, M, 16, 0, 0), 12, 0, 0);
            failing(spoilt(types[k], values[k], M, M, M, M, M, M, M, M, M, 2, 0), 12, 0, 0);
            failing(spoilt(types[k], values[k], 254, 255, 255, 255, 255, 255, 255, 255, 255, 1, 0), 12, 0, 0);
            failing(spoilt(types[k], values[k], M, M, M, M, 32, 0, 0), 12, 0, 0);
            failing(spoilt(types[k], values[k], M), 11, 1, 0);
            failing(spoilt(types[k], values[k]), 11, 0, 0);
        }
    }

    static void lettersBesideAToZ() {
        taken(spoilt("text", "\"ab\"", 4, 'a', 'z', 0, 0), 5, 0);
        int[] wrong = {'a' - 1, 'z' + 1, 'A', 'Z', ' ', '0', 0, 128, 'a' + 128, 255};
        for (int sign : wrong) {
            failing(spoilt("text", "\"ab\"", 4, sign, 'a', 0, 0), 12, 0, 0);
            failing(spoilt("text", "\"ab\"", 4, 'a', sign, 0, 0), 12, 0, 0);
        }
    }

    static void aTextEndsTooSoon() {
        failing(spoilt("text", "\"ab\"", 4), 11, 1, 0);
        failing(spoilt("text", "\"ab\"", 4, 'a'), 11, 2, 0);
        failing(spoilt("text", "\"\"", 24, 'a', 'a', 'a'), 11, 4, 0);
    }

    static void aListOfNoneAndOfTwoHundred() {
        Probe p = spoilt("list none", "[]", 0, 0, 0);
        taken(p, 6, 0);
        due("how many", 0, p.reader.node(1, 3));
        Probe q = spoilt("list none", "[]", 0x90, 3, 0, 0);
        taken(q, 6, 0);
        due("how many", 200, q.reader.node(1, 3));
    }

    static void aListOfTwoHundredAndOne() {
        failing(spoilt("list none", "[]", 0x92, 3, 0, 0), 12, 0, 0);
    }

    static void aListOfFewerThanNone() {
        failing(spoilt("list none", "[]", 1, 0, 0), 12, 0, 0);
    }

    static void anItemThatEndsTooSoon() {
        failing(spoilt("list flag", "[]", 4), 11, 1, 0, 100);
        failing(spoilt("list flag", "[]", 4, 1), 11, 2, 0, 101);
        failing(spoilt("list list flag", "[]", 2, 4, 1), 11, 3, 0, 100, 101);
    }

    static void theTwoHundredthItem() {
        Probe p = with("plan;record a x list flag;plan;record a y int else 1;");
        p.writeDue(0, 0, "{x [" + joined("no", 200) + "]}", 202);
        p.reader.spoil(0, 201, 2);
        for (int plan = 0; plan < 2; plan++) {
            due("read", -3, p.reader.read(0, plan));
            p.failureDue(12, 201, 0, 299);
        }
        p.reader.cut(0, 201);
        for (int plan = 0; plan < 2; plan++) {
            due("read", -3, p.reader.read(0, plan));
            p.failureDue(11, 201, 0, 299);
        }
    }

    static void theFirstAndTheLastBranch() {
        taken(spoilt("either flag or none", "yes", 0, 1, 0, 0), 1, 1);
        taken(spoilt("either flag or none", "yes", 2, 0, 0), 0, 0);
        taken(spoilt("either flag or none or text or int", "yes", 6, 14, 0, 0), 2, 7);
    }

    static void aBranchThatIsNotThere() {
        failing(spoilt("either flag or none", "yes", 4, 0, 0), 12, 0, 0);
        failing(spoilt("either flag or none or text", "yes", 6, 0, 0), 12, 0, 0);
        failing(spoilt("either flag or none or text or int", "yes", 8, 0, 0), 12, 0, 0);
        failing(spoilt("either flag or none", "yes", 1, 0, 0), 12, 0, 0);
    }

    static void aBranchThatEndsTooSoon() {
        failing(spoilt("either flag or int", "yes", 0), 11, 1, 0, 200);
        failing(spoilt("either flag or int", "yes", 2), 11, 1, 0, 201);
        failing(spoilt("either flag or int", "yes", 2, M), 11, 2, 0, 201);
    }

    static void aSpoiltValueInABranch() {
        failing(spoilt("either int or flag", "yes", 2, 2, 0, 0), 12, 1, 0, 201);
        failing(spoilt("list either int or flag", "[]", 4, 0, 0, 2, 2, 0), 12, 4, 0, 101, 201);
    }

    static void aSpoiltValueInARecord() {
        failing(spoilt("b", "{y yes,z 1}", 2, 0, 0, 0), 12, 0, 0, 0);
        failing(spoilt("b", "{y yes,z 1}", 1), 11, 1, 0, 1);
        failing(spoilt("list b", "[]", 4, 1, 1, 1, M, M, M, M, 16), 12, 4, 0, 101, 1);
    }

    static void aBranchThatDoesNotMatch() {
        Probe p = with("plan;record a v flag,x either int or text or none;plan;record a x int;plan;record a x either text or flag;");
        p.writeDue(0, 0, "{v yes,x 5}", 3);
        p.writeDue(1, 0, "{v yes,x \"a\"}", 4);
        p.writeDue(2, 0, "{v yes,x none}", 2);
        due("int by int", 2, p.reader.read(0, 1));
        due("text by int", -3, p.reader.read(1, 1));
        due("its kind", 13, p.reader.failure(0));
        due("its byte", 1, p.reader.failure(2));
        due("its first step", 1, p.reader.failureStep(0));
        due("none by int", -3, p.reader.read(2, 1));
        due("its kind", 13, p.reader.failure(0));
        due("its byte", 1, p.reader.failure(2));
        due("int by text or flag", -3, p.reader.read(0, 2));
        due("its kind", 13, p.reader.failure(0));
        due("text by text or flag", 2, p.reader.read(1, 2));
    }

    static void aBranchThatIsNotThereIsNoBranchThatDoesNotMatch() {
        Probe p = with("plan;record a x either int or text;plan;record a x int;");
        p.put(0, 0, "{x \"ab\"}", 4, 0, 0);
        due("read", -3, p.reader.read(0, 1));
        p.failureDue(12, 0, 0);
    }

    static void noBytesAreLeftOver() {
        Probe p = spoilt("flag", "yes", 1, 0, 0);
        due("read", 4, p.reader.read(0, 0));
    }

    static void oneByteIsLeftOver() {
        failing(spoilt("flag", "yes", 1, 0, 0, 0), 14, 3);
        failing(spoilt("flag", "yes", 1, 0, 0, 255), 14, 3);
    }

    static void manyBytesAreLeftOver() {
        failing(spoilt("flag", "yes", 1, 0, 0, 9, 9, 9, 9), 14, 3);
    }

    static void theFirstOneThatIsMet() {
        failing(spoilt("flag", "yes", 2, 26, 0, 0), 12, 0, 0);
        failing(spoilt("flag", "yes", 1, 26, 0, 0), 12, 1, 1);
        failing(spoilt("flag", "yes", 1, 2, '!'), 12, 1, 1);
        failing(spoilt("list flag", "[]", 4, 1, 2), 12, 2, 0, 101);
    }

    static void lettersAreMetOneByOne() {
        failing(spoilt("flag", "yes", 1, 6, '!'), 12, 1, 1);
        failing(spoilt("flag", "yes", 1, 6, 'a', '!'), 12, 1, 1);
        failing(spoilt("flag", "yes", 1, 6, 'a', 'b'), 11, 4, 1);
    }

    /** Plans 1 and 2 have the writer's x twice, each of them in another order. */
    private static Probe twice(int... bytes) {
        Probe p = with("plan;record a x either int or text,y flag;plan;record a p int was x,q text was x;"
                + "plan;record a q text was x,p int was x;");
        p.put(0, 0, "{x \"abc\",y yes}", bytes);
        return p;
    }

    static void whatTwoFieldsHaveIsGoneThroughForEachInOrder() {
        Probe p = twice(2, 2, '!', 1);
        due("first as an int", -3, p.reader.read(0, 1));
        due("a branch that does not match", 13, p.reader.failure(0));
        due("its byte", 0, p.reader.failure(2));
        due("first as a text", -3, p.reader.read(0, 2));
        p.failureDue(12, 1, 0, 201);
    }

    static void whatTwoFieldsHaveIsGoneThroughAheadOfTheNextField() {
        Probe p = twice(0, 10, 2);
        for (int plan = 1; plan <= 2; plan++) {
            due("read by " + plan, -3, p.reader.read(0, plan));
            due("a branch that does not match", 13, p.reader.failure(0));
            due("its byte", 0, p.reader.failure(2));
        }
        Probe q = with("plan;record a x int,y flag;plan;record a p int was x,q long was x;");
        q.put(0, 0, "{x 5,y yes}", 10, 2);
        due("both are well", -3, q.reader.read(0, 1));
        q.failureDue(12, 1, 1);
    }

    static void whatIsSkippedFailsAheadOfWhatIsBehind() {
        Probe p = with("plan;record a x flag,y flag;plan;record a y flag;");
        p.put(0, 0, "{x yes,y yes}", 2, 2);
        due("read", -3, p.reader.read(0, 1));
        p.failureDue(12, 0, 0);
    }

    private static Probe ring() {
        return with("plan;record n v int else 1,next either none or n else none;plan;record n v int;plan;record m z int else 0;");
    }

    static void aValueWithinThirtyOthers() {
        Probe p = ring();
        p.writeDue(0, 0, "{next ".repeat(29) + "{}" + "}".repeat(29), 60);
        due("read", 61, p.reader.read(0, 0));
        due("its record alone", 2, p.reader.read(0, 1));
        due("skipped", 2, p.reader.read(0, 2));
    }

    static void aValueWithinThirtyOneOthers() {
        Probe p = ring();
        p.writeDue(0, 0, "{next ".repeat(30) + "{}" + "}".repeat(30), 62);
        int[] path = new int[0];
        for (int k = 0; k < 30; k++) {
            path = joint(path, 1, 201);
        }
        for (int plan = 0; plan < 3; plan++) {
            due("read by " + plan, -3, p.reader.read(0, plan));
            p.failureDue(16, 60, joint(path, 0));
        }
    }

    static void tooDeepIsToldAheadOfItsBytes() {
        Probe p = ring();
        p.writeDue(0, 0, "{next ".repeat(30) + "{}" + "}".repeat(30), 62);
        p.reader.cut(0, 60);
        due("read", -3, p.reader.read(0, 0));
        due("kind", 16, p.reader.failure(0));
        due("byte", 60, p.reader.failure(2));
        p.reader.cut(0, 59);
        due("read", -3, p.reader.read(0, 0));
        due("kind", 11, p.reader.failure(0));
        due("byte", 59, p.reader.failure(2));
    }

    static void anEitherThatIsTooDeepIsToldAheadOfItsBranch() {
        Probe p = with("plan;record n next either none or n else none;plan;record n z int else 0;");
        p.writeDue(0, 0, "{next ".repeat(30) + "{}" + "}".repeat(30), 31);
        int[] path = new int[0];
        for (int k = 0; k < 30; k++) {
            path = joint(path, 0, 201);
        }
        for (int bytes = 31; bytes >= 30; bytes--) {
            p.reader.cut(0, bytes);
            for (int plan = 0; plan < 2; plan++) {
                due("read by " + plan, -3, p.reader.read(0, plan));
                p.failureDue(16, 30, joint(path, 0));
            }
        }
        p.reader.cut(0, 29);
        due("read", -3, p.reader.read(0, 0));
        due("kind", 11, p.reader.failure(0));
    }

    /** A record within 28 others, its lists within 29 and 30, an item of these within 31. */
    static void listsAndRecordsCountAlike() {
        Probe p = with("plan;record n k list n else [],m list list flag else [];plan;record n z int else 0;");
        String deep = "{k [".repeat(14) + "{m [[]]}" + "]}".repeat(14);
        p.writeDue(0, 0, deep, 14 * 2 + 3);
        due("read", 14 * 3 + 4, p.reader.read(0, 0));
        due("skipped", 2, p.reader.read(0, 1));
        int[] path = new int[0];
        for (int k = 0; k < 14; k++) {
            path = joint(path, 0, 100);
        }
        p.reader.spoil(0, 16, 2);
        for (int plan = 0; plan < 2; plan++) {
            due("read by " + plan, -3, p.reader.read(0, plan));
            p.failureDue(16, 17, joint(path, 1, 100, 100));
        }
    }

    /** Each item is a record without bytes, in whose field there is another one, in whose field there is none. */
    private static Probe withoutBytes(int deep) {
        Probe p = with("plan;record n k list d else [],next either none or n else none;record d y e;record e z none;"
                + "plan;record n w int else 0;");
        p.writeDue(0, 0, "{next ".repeat(deep) + "{}" + "}".repeat(deep), 2 * deep + 2);
        p.reader.spoil(0, 2 * deep, 4);
        return p;
    }

    static void recordsWithoutBytesWithinThirtyOthers() {
        Probe p = withoutBytes(26);
        due("read", 26 * 2 + 3 + 2 * 3, p.reader.read(0, 0));
        due("skipped", 2, p.reader.read(0, 1));
    }

    static void recordsWithoutBytesWithinThirtyOneOthers() {
        int[][] last = {{0, 100, 0, 0}, {0, 100, 0}, {0, 100}, {0}};
        for (int deep = 27; deep <= 30; deep++) {
            Probe p = withoutBytes(deep);
            int[] path = new int[0];
            for (int k = 0; k < deep; k++) {
                path = joint(path, 1, 201);
            }
            int at = deep == 30 ? 2 * deep : 2 * deep + 1;
            for (int plan = 0; plan < 2; plan++) {
                due("read by " + plan, -3, p.reader.read(0, plan));
                p.failureDue(16, at, joint(path, last[deep - 27]));
            }
        }
    }

    /** Plan 0 tells the bytes; by plan 1 the first item's f is as many a node as one likes, and e is the next one. */
    private static Probe manyNodes(int fOfTheFirstItem, int... flags) {
        Probe p = with("plan;record a x list none,y list none,k list b;record b f flag;"
                + "plan;record a x list none,y list none,k list b;record b e int else 1,f flag;");
        String carrier = "{x [" + joined("none", 64) + "],y [" + joined("none", 64) + "],k [" + joined("{f yes}", 4) + "]}";
        int z = 2 * (fOfTheFirstItem - 206);
        p.put(0, 0, carrier, joint(new int[] {0x90, 3, z & 127 | 128, z >> 7, 4}, flags));
        return p;
    }

    static void whatElseTellsIsTheFourHundredthNodeOfOneItem() {
        Probe p = manyNodes(396, 1, 0);
        due("the last item's e is the 400th", 400, p.reader.read(0, 1));
        p.nodeDue(398, 2, 397, 0, 0, 1, 1);
        p.nodeDue(399, 1, 397, 1, 0, 0, 0);
    }

    static void whatElseTellsIsTheFourHundredAndFirstNode() {
        Probe p = manyNodes(397, 1, 0);
        due("read", -3, p.reader.read(0, 1));
        p.failureDue(15, NONE);
        due("without what else tells", 399, p.reader.read(0, 0));
    }

    static void whatElseTellsComesBehindWhatIsReadOfItsRecord() {
        Probe p = manyNodes(400, 2, 1);
        due("its own record's byte is met ahead of it", -3, p.reader.read(0, 1));
        p.failureDue(12, 5, 2, 100, 0);
        Probe q = manyNodes(400, 1, 2);
        due("the next record's byte is met behind it", -3, q.reader.read(0, 1));
        q.failureDue(15, NONE);
    }

    /** The record is the 399th node, its f the 400th: e or d would be the 401st if they came in front of f. */
    static void whatElseTellsInFrontOfAFieldComesBehindItAllTheSame() {
        Probe p = with("plan;record a x list none,y list none,k b;record b f flag;"
                + "plan;record a x list none,y list none,k b;record b e int else 1,f flag,d int else 2;"
                + "plan;record a x list none,y list none,k b;record b e int else 1,d int else 2,f flag;");
        String carrier = "{x [" + joined("none", 64) + "],y [" + joined("none", 64) + "],k {f yes}}";
        for (int plan = 1; plan <= 2; plan++) {
            p.put(0, 0, carrier, 0x90, 3, 0x86, 3, 2);
            due("a spoilt f is met ahead of what else tells", -3, p.reader.read(0, plan));
            p.failureDue(12, 4, 2, 0);
            p.put(0, 0, carrier, 0x90, 3, 0x86, 3, 1);
            due("behind f comes what else tells", -3, p.reader.read(0, plan));
            p.failureDue(15, NONE);
        }
    }

    static void aFourHundredAndFirstNodeIsMetAheadOfBytesLeftOver() {
        Probe p = manyNodes(397, 1, 0, 0);
        due("read", -3, p.reader.read(0, 1));
        p.failureDue(15, NONE);
        due("read", -3, p.reader.read(0, 0));
        p.failureDue(14, 7);
    }

    static void aFourHundredAndFirstNodeHasNoByteAndNoPath() {
        Probe p = with("plan;record a x list list none;");
        p.put(0, 0, "{x [[],[],[],[],[]]}", 4, 0x90, 3, 0x90, 3);
        due("read", -3, p.reader.read(0, 0));
        p.failureDue(15, NONE);
    }
}
