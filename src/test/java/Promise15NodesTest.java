/** Promise 15, which nodes are read: found by names, widened, chosen, skipped, filled in; in which order. */
public final class Promise15NodesTest extends Edge {
    public static void main(String[] args) {
        run(Promise15NodesTest.class);
    }

    private static Probe read(String writer, String value, String reader, int nodes) {
        Probe p = with("plan;" + writer + "plan;" + reader);
        due("write(" + value + ")", 1, p.write(0, 0, value) >= 0 ? 1 : 0);
        due("read of " + value, nodes, p.reader.read(0, 1));
        return p;
    }

    static void eachNodeAheadOfWhatItHas() {
        Probe p = read("record a x list b,y b;record b u list int,v flag;",
                "{x [{u [1,2],v yes},{u [],v no}],y {u [3],v yes}}", "record a x list b,y b;record b u list int,v flag;", 14);
        int[] sorts = {7, 6, 7, 6, 2, 2, 1, 7, 6, 1, 7, 6, 2, 1};
        int[] parents = {-1, 0, 1, 2, 3, 3, 2, 1, 7, 7, 0, 10, 11, 10};
        int[] places = {0, 0, 0, 0, 0, 1, 1, 1, 0, 1, 1, 0, 0, 1};
        for (int i = 0; i < sorts.length; i++) {
            due("sort of " + i, sorts[i], p.reader.node(i, 0));
            due("parent of " + i, parents[i], p.reader.node(i, 1));
            due("place of " + i, places[i], p.reader.node(i, 2));
        }
    }

    static void inTheOrderOfTheReadersFields() {
        Probe p = read("record a x int,y int,z int;", "{x 1,y 2,z 3}", "record a z int,x int,y int;", 4);
        due("z", 3, p.reader.value(1));
        due("x", 1, p.reader.value(2));
        due("y", 2, p.reader.value(3));
    }

    static void byWhatAFieldWas() {
        Probe p = read("record a x int,y int;", "{x 1,y 2}", "record a y int was x,z int was x;", 3);
        due("its name goes first", 2, p.reader.value(1));
        due("what it was", 1, p.reader.value(2));
    }

    static void aFieldThatIsThereIsNotFilledIn() {
        Probe p = read("record a x int;", "{x 1}", "record a x int else 9,y int was x else 9,z int else 9;", 4);
        p.nodeDue(1, 2, 0, 0, 0, 0, 1);
        p.nodeDue(2, 2, 0, 1, 0, 0, 1);
        p.nodeDue(3, 2, 0, 2, 0, 1, 9);
    }

    static void whatTheWritersElseToldIsNotFilledInByTheReader() {
        Probe p = read("record a x int else 4;", "{}", "record a x int else 9;", 2);
        p.nodeDue(1, 2, 0, 0, 0, 0, 4);
    }

    static void eachSortThatElseTells() {
        Probe p = read("record a q none;", "{q none}", "record a n none else none,f flag else yes,i int else -2147483648,"
                + "l long else 999999999999999999,r real else -0.5,t text else \"abcdefghijkl\",k list a else [],"
                + "e either list int or int else [];", 9);
        p.nodeDue(1, 0, 0, 0, 0, 1, 0);
        p.nodeDue(2, 1, 0, 1, 0, 1, 1);
        p.nodeDue(3, 2, 0, 2, 0, 1, MIN);
        p.nodeDue(4, 3, 0, 3, 0, 1, 999999999999999999L);
        p.nodeDue(5, 4, 0, 4, 0, 1, Double.doubleToLongBits(-0.5));
        p.nodeDue(6, 5, 0, 5, 12, 1, 0);
        p.lettersDue(6, "abcdefghijkl");
        p.nodeDue(7, 6, 0, 6, 0, 1, 0);
        p.nodeDue(8, 6, 0, 7, 0, 1, 0);
    }

    static void anEitherIsTheNodeOfItsBranch() {
        Probe p = read("record a x either none or int or text or list flag;", "{x [yes]}",
                "record a x either none or int or text or list flag;", 3);
        due("a list", 6, p.reader.node(1, 0));
        due("its item", 1, p.reader.node(2, 1));
        Probe q = read("record a x either none or int or text or list flag;", "{x none}",
                "record a x either none or int or text or list flag;", 2);
        due("none", 0, q.reader.node(1, 0));
    }

    static void theChosenOneIsTheFirstOfTheSameSort() {
        due("int", 2, read("record a x int;", "{x 1}", "record a x either real or long or int;", 2).reader.node(1, 0));
        due("long", 3, read("record a x long;", "{x 1}", "record a x either real or long or int;", 2).reader.node(1, 0));
    }

    static void elseTheFirstOneThatIsMatched() {
        due("real", 4, read("record a x int;", "{x 1}", "record a x either text or real or long;", 2).reader.node(1, 0));
        due("long", 3, read("record a x int;", "{x 1}", "record a x either long or real or text;", 2).reader.node(1, 0));
        due("real", 4, read("record a x long;", "{x 1}", "record a x either int or flag or real;", 2).reader.node(1, 0));
    }

    static void aBranchOfTheWriterChoosesForItself() {
        String writer = "record a x either int or long or text;";
        String reader = "record a x either real or long or text;";
        due("int", 4, read(writer, "{x 1}", reader, 2).reader.node(1, 0));
        due("long", 3, read(writer, "{x 2147483648}", reader, 2).reader.node(1, 0));
        due("text", 5, read(writer, "{x \"\"}", reader, 2).reader.node(1, 0));
    }

    static void anIntWidenedToALong() {
        long[] numbers = {0, -1, 63, 64, MIN, MAX};
        for (long number : numbers) {
            Probe p = read("record a x int;", "{x " + number + "}", "record a x long;", 2);
            p.nodeDue(1, 3, 0, 0, 0, 0, number);
        }
    }

    static void anIntWidenedToAReal() {
        int[] numbers = {0, 1, -1, 63, 16777217, MIN, MAX, -2147483647};
        for (int number : numbers) {
            Probe p = read("record a x int;", "{x " + number + "}", "record a x real;", 2);
            p.nodeDue(1, 4, 0, 0, 0, 0, Double.doubleToLongBits((double) number));
        }
    }

    static void aLongWidenedToAReal() {
        long[] numbers = {0, 1, -1, 9007199254740991L, 9007199254740992L, 9007199254740993L, 9007199254740995L,
            -9007199254740993L, 999999999999999999L, -999999999999999999L, 4503599627370497L, 36028797018963969L};
        for (long number : numbers) {
            Probe p = read("record a x long;", "{x " + number + "}", "record a x real;", 2);
            p.nodeDue(1, 4, 0, 0, 0, 0, Double.doubleToLongBits((double) number));
        }
    }

    static void theFarthestLongsWidenedToAReal() {
        Probe p = with("plan;record a x long,t text;plan;record a x real;");
        p.put(0, 0, "{x 1,t \"abcdefghijkl\"}", 254, 255, 255, 255, 255, 255, 255, 255, 255, 1, 0);
        due("read", 2, p.reader.read(0, 1));
        due("the greatest", Double.doubleToLongBits((double) Long.MAX_VALUE), p.reader.value(1));
        p.put(0, 0, "{x 1,t \"abcdefghijkl\"}", 255, 255, 255, 255, 255, 255, 255, 255, 255, 1, 0);
        due("read", 2, p.reader.read(0, 1));
        due("the least", Double.doubleToLongBits((double) Long.MIN_VALUE), p.reader.value(1));
    }

    static void itemsOfAListAreWidened() {
        Probe p = read("record a x list list int;", "{x [[1],[],[-2]]}", "record a x list list real;", 7);
        p.nodeDue(3, 4, 2, 0, 0, 0, Double.doubleToLongBits(1.0));
        p.nodeDue(4, 6, 1, 1, 0, 0, 0);
        p.nodeDue(6, 4, 5, 0, 0, 0, Double.doubleToLongBits(-2.0));
    }

    static void whatTheReaderHasNotIsSkipped() {
        String[] types = {"none", "flag", "int", "long", "real", "text", "list list int", "b", "either none or list b"};
        String[] values = {"none", "yes", "-300", "999999999999999999", "0.1", "\"abcdefghijkl\"", "[[1,2],[],[300]]",
            "{p \"ab\",q [{p \"\",q []}]}", "[{p \"ab\",q []},{p \"\",q []}]"};
        for (int k = 0; k < types.length; k++) {
            Probe p = read("record a u int,x " + types[k] + ",v int;record b p text,q list b;",
                    "{u 5,x " + values[k] + ",v 7}", "record a v int,u int;", 3);
            due("v", 7, p.reader.value(1));
            due("u", 5, p.reader.value(2));
        }
    }

    static void anyBranchOfWhatTheReaderHasNotIsSkipped() {
        String[] values = {"none", "5", "\"ab\"", "[yes,no]"};
        for (String value : values) {
            Probe p = read("record a x either none or int or text or list flag,y int;", "{x " + value + ",y 7}",
                    "record a y int;", 2);
            due("y", 7, p.reader.value(1));
        }
    }

    static void aFieldForTwoIsGoneThroughTwice() {
        Probe p = read("record a x list either int or text,y int;", "{x [1,\"a\"],y 7}",
                "record a p list either text or real was x,y int,q list either int or text was x;", 8);
        due("p's first", 4, p.reader.node(2, 0));
        due("p's second", 5, p.reader.node(3, 0));
        due("y", 7, p.reader.value(4));
        due("q's first", 2, p.reader.node(6, 0));
        due("q's second", 5, p.reader.node(7, 0));
    }

    static void aFieldForEight() {
        StringBuilder reader = new StringBuilder("record a ");
        for (int k = 0; k < 8; k++) {
            reader.append(k == 0 ? "" : ",").append(letter(k)).append(k % 2 == 0 ? " int was x" : " real was x");
        }
        Probe p = read("record a x int;", "{x 3}", reader + ";", 9);
        for (int k = 0; k < 8; k++) {
            due("value " + k, k % 2 == 0 ? 3 : Double.doubleToLongBits(3.0), p.reader.value(k + 1));
        }
    }

    static void recordsInRings() {
        Probe p = read("record n v int,next either none or n;", "{v 1,next {v 2,next {v 3,next none}}}",
                "record m next either n or none was old,v long;record n next either none or n,v int,w flag else yes;", 9);
        due("the root's next", 7, p.reader.node(1, 0));
        due("filled in at the end", 1, p.reader.node(7, 4));
        due("the root's v", 1, p.reader.value(8));
    }

    /** Thirty records in one another, each read like the root; halves, for an object is good for 512 calls. */
    static void eachOfThirtyRecordsInOneAnotherIsReadLikeTheRoot() {
        StringBuilder value = new StringBuilder("none");
        for (int k = 29; k >= 0; k--) {
            value.insert(0, "{v " + k + ",w \"" + letter(k % 26) + "\",next ").append('}');
        }
        for (int half = 0; half < 2; half++) {
            Probe p = read("record n v int,w text,next either none or n;", value.toString(),
                    "record n next either n or none,u flag else yes,v real,t text was w;", 121);
            due("the last one's next", 0, p.reader.node(30, 0));
            for (int k = 15 * half; k < 15 * half + 15; k++) {
                int behind = 31 + 3 * (29 - k);
                p.nodeDue(k, 7, k - 1, 0, 4, 0, 0);
                p.nodeDue(behind, 1, k, 1, 0, 1, 1);
                p.nodeDue(behind + 1, 4, k, 2, 0, 0, Double.doubleToLongBits((double) k));
                p.nodeDue(behind + 2, 5, k, 3, 1, 0, 0);
                due("its letter", k % 26 + 1, p.reader.letter(behind + 2, 0));
            }
        }
    }

    static void aListOfTwoHundred() {
        Probe p = read("record a x list int;", "{x [" + joined("1", 200) + "]}", "record a x list long;", 202);
        due("how many it has", 200, p.reader.node(1, 3));
        due("the last one's place", 199, p.reader.node(201, 2));
        due("the last one's sort", 3, p.reader.node(201, 0));
    }
}
