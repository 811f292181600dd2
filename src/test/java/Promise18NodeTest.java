/** Promise 18, node: what is told of each node; all else throws. */
public final class Promise18NodeTest extends Edge {
    private static final String PLANS = "plan;record a f flag,i int,l long,r real,t text,k list b,n none;record b v none;"
            + "plan;record a k list b,t text,z text else \"abc\",n none;record b v none,w list int else [];";
    private static final String VALUE = "{f yes,i 1,l 2,r 3,t \"ab\",k [{v none},{v none}],n none}";

    public static void main(String[] args) {
        run(Promise18NodeTest.class);
    }

    private static Probe read(int plan, int nodes) {
        Probe p = with(PLANS);
        due("write", 1, p.write(0, 0, VALUE) > 0 ? 1 : 0);
        due("read", nodes, p.reader.read(0, plan));
        return p;
    }

    private static void none(Probe p, int i, int what) {
        throwsDue("node(" + i + ", " + what + ")", () -> p.reader.node(i, what));
    }

    static void theSorts() {
        Probe p = read(0, 12);
        int[] sorts = {7, 1, 2, 3, 4, 5, 6, 7, 0, 7, 0, 0};
        for (int i = 0; i < sorts.length; i++) {
            due("sort of " + i, sorts[i], p.reader.node(i, 0));
        }
    }

    static void theNodeThatHasIt() {
        Probe p = read(0, 12);
        int[] parents = {NONE, 0, 0, 0, 0, 0, 0, 6, 7, 6, 9, 0};
        for (int i = 0; i < parents.length; i++) {
            due("parent of " + i, parents[i], p.reader.node(i, 1));
        }
    }

    static void itsFieldOrItem() {
        Probe p = read(0, 12);
        int[] places = {0, 0, 1, 2, 3, 4, 5, 0, 0, 1, 0, 6};
        for (int i = 0; i < places.length; i++) {
            due("place of " + i, places[i], p.reader.node(i, 2));
        }
    }

    static void howManyItHas() {
        Probe p = read(0, 12);
        int[] sizes = {7, 0, 0, 0, 0, 2, 2, 1, 0, 1, 0, 0};
        for (int i = 0; i < sizes.length; i++) {
            due("size of " + i, sizes[i], p.reader.node(i, 3));
        }
    }

    static void whatWasFilledIn() {
        Probe p = read(1, 11);
        int[] filled = {0, 0, 0, 0, 1, 0, 0, 1, 0, 1, 0};
        for (int i = 0; i < filled.length; i++) {
            due("filling of " + i, filled[i], p.reader.node(i, 4));
        }
        due("letters of what was filled in", 3, p.reader.node(9, 3));
        due("items of what was filled in", 0, p.reader.node(4, 3));
        due("the node that has it", 2, p.reader.node(4, 1));
        due("its field there", 1, p.reader.node(4, 2));
    }

    static void theReadersFieldIsItsPlace() {
        Probe p = read(1, 11);
        due("k", 0, p.reader.node(1, 2));
        due("t", 1, p.reader.node(8, 2));
        due("z", 2, p.reader.node(9, 2));
        due("n", 3, p.reader.node(10, 2));
    }

    static void aListOfNoneAndOfTwoHundred() {
        Probe p = with("plan;record a x list int,y list int;");
        p.writeDue(0, 0, "{x [],y [" + joined("1", 200) + "]}", 203);
        due("read", 203, p.reader.read(0, 0));
        due("none", 0, p.reader.node(1, 3));
        due("two hundred", 200, p.reader.node(2, 3));
        due("the last item", 199, p.reader.node(202, 2));
        due("the list that has it", 2, p.reader.node(202, 1));
    }

    static void aTextOfNoLettersAndOfTwelve() {
        Probe p = with("plan;record a x text,y text;");
        p.writeDue(0, 0, "{x \"\",y \"abcdefghijkl\"}", 14);
        due("read", 3, p.reader.read(0, 0));
        due("none", 0, p.reader.node(1, 3));
        due("twelve", 12, p.reader.node(2, 3));
    }

    static void aRecordOfEightFields() {
        Probe p = with("plan;record a a int,b int,c int,d int,e int,f int,g int,h int;plan;record a h int;");
        p.writeDue(0, 0, "{a 1,b 1,c 1,d 1,e 1,f 1,g 1,h 1}", 8);
        due("read", 9, p.reader.read(0, 0));
        due("fields", 8, p.reader.node(0, 3));
        due("the last one's place", 7, p.reader.node(8, 2));
        due("read by another", 2, p.reader.read(0, 1));
        due("the reader's fields", 1, p.reader.node(0, 3));
        due("the reader's place", 0, p.reader.node(1, 2));
    }

    static void noSuchNode() {
        Probe p = read(0, 12);
        for (int i : outside(0, 11)) {
            for (int what = 0; what <= 4; what++) {
                none(p, i, what);
            }
        }
    }

    static void noSuchWhat() {
        Probe p = read(0, 12);
        for (int what : outside(0, 4)) {
            none(p, 0, what);
            none(p, 11, what);
            none(p, 12, what);
        }
    }

    static void noneAheadOfARead() {
        Probe p = with(PLANS);
        none(p, 0, 0);
    }

    static void noneBehindNoMatchOrAFailure() {
        Probe p = with("plan;record a x int;plan;record a x text;");
        p.writeDue(0, 0, "{x 1}", 1);
        due("read", 2, p.reader.read(0, 0));
        due("read", -2, p.reader.read(0, 1));
        none(p, 0, 0);
        due("read", 2, p.reader.read(0, 0));
        p.reader.cut(0, 0);
        due("read", -3, p.reader.read(0, 0));
        none(p, 0, 0);
    }

    static void fewerNodesThanBefore() {
        Probe p = with("plan;record a x list int;");
        p.writeDue(0, 0, "{x [1,2,3]}", 4);
        p.writeDue(1, 0, "{x []}", 1);
        due("read", 5, p.reader.read(0, 0));
        due("read", 2, p.reader.read(1, 0));
        none(p, 2, 0);
        none(p, 4, 0);
    }

    static void whatWasFilledInOnceIsNotFilledInTheNextTime() {
        Probe p = with("plan;record a x int;plan;record a x int,y int;plan;record a y int else 5,x int else 6;");
        p.writeDue(0, 0, "{x 1}", 1);
        p.writeDue(1, 1, "{x 1,y 2}", 2);
        for (int round = 0; round < 2; round++) {
            due("read", 3, p.reader.read(0, 2));
            p.nodeDue(1, 2, 0, 0, 0, 1, 5);
            p.nodeDue(2, 2, 0, 1, 0, 0, 1);
            due("read", 3, p.reader.read(1, 2));
            p.nodeDue(1, 2, 0, 0, 0, 0, 2);
            p.nodeDue(2, 2, 0, 1, 0, 0, 1);
        }
    }

    static void nothingChanges() {
        Watch.unchanged("node(0, 0)", Watch::nodes, r -> r.node(0, 0), 7);
        Watch.unchanged("node(4, 0)", Watch::nodes, r -> r.node(4, 0), Watch.THROWS);
        Watch.unchanged("node(0, 5)", Watch::failed, r -> r.node(0, 5), Watch.THROWS);
    }
}
