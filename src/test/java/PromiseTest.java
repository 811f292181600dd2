/** For each promise of the document ordinary calls, the edges that it names, and wrong inputs. */
public final class PromiseTest {
    private static final int NONE = ShapeReader.NONE;
    private static final String RING = "plan;record n v int,next either none or n;";

    public static void main(String[] args) {
        newObject();
        feed();
        plans();
        plansForm();
        plansTokens();
        plansFaults();
        plansLimits();
        write();
        writeFaults();
        writeLimits();
        record();
        field();
        message();
        byteAt();
        spoilAndCut();
        matches();
        miss();
        readers();
        read();
        readTwice();
        failureKinds();
        failurePaths();
        failureLimits();
        latestFailure();
        node();
        value();
        letter();
        convert();
        alike();
        kept();
        count();
        Probe.finish("PromiseTest");
    }

    private static Probe with(String plans, int many) {
        Probe p = new Probe();
        p.plansDue(plans, many);
        return p;
    }

    private static void newObject() {
        Probe p = new Probe();
        for (int what = 0; what <= 5; what++) {
            Probe.due("count(" + what + ") of a new object", 0, p.reader.count(what));
        }
        Probe.due("record", NONE, p.reader.record(0, 0, 0));
        Probe.due("field", NONE, p.reader.field(0, 0, 0, 0));
        Probe.due("message", NONE, p.reader.message(0, 0));
        Probe.due("readers", NONE, p.reader.readers(0, 0));
        Probe.due("failure", NONE, p.reader.failure(0));
        Probe.due("failureStep", NONE, p.reader.failureStep(0));
        Probe.due("write", NONE, p.reader.write(0, 0, 0));
        Probe.due("alike", NONE, p.reader.alike(0, 0, 0));
        Probe.due("convert", NONE, p.reader.convert(0, 0, 0));
        Probe.throwsDue("node", () -> p.reader.node(0, 0));
    }

    private static void feed() {
        Probe p = new Probe();
        for (int k = 1; k <= 50; k++) {
            Probe.due("feed " + k, 20 * k, p.reader.feed(0x20202020, 0x0a202020, 0x20202020, 0x20202020, 0x20202020));
        }
        Probe.due("feed beyond the tape", NONE, p.reader.feed(1, 2, 3, 4, 5));
        Probe.due("the tape stays", 1000, p.reader.count(5));
        Probe.due("plans of blanks alone", Probe.fault(1000, 1), p.reader.plans(1000));
        Probe.due("the tape is empty", 0, p.reader.count(5));
        Probe.due("the highest byte comes first", 20,
                p.reader.feed(0x706c616e, 0x3b726563, 0x6f726420, 0x61207820, 0x696e743b));
        Probe.due("plans of what was fed", 1, p.reader.plans(20));
    }

    private static void plans() {
        Probe p = new Probe();
        p.plansDue("plan;record a x int;", 1);
        p.writeDue(0, 0, "{x 1}", 1);
        Probe.due("read", 2, p.reader.read(0, 0));
        p.feed("plan;record a x int;");
        Probe.due("more than the tape has", NONE, p.reader.plans(21));
        Probe.due("below 0", NONE, p.reader.plans(-1));
        Probe.due("the tape stays", 20, p.reader.count(5));
        Probe.due("a fault", Probe.fault(4, 1), p.reader.plans(4));
        Probe.due("all else stays behind a fault: messages", 1, p.reader.count(1));
        Probe.due("all else stays behind a fault: nodes", 2, p.reader.count(2));
        Probe.due("all else stays behind a fault: kept", 1, p.reader.kept(NONE));
        Probe.due("but the tape is empty", 0, p.reader.count(5));
        p.plansDue("plan;record a x int;plan;record b y int;", 2);
        Probe.due("messages are gone", 0, p.reader.count(1));
        Probe.due("nodes are gone", 0, p.reader.count(2));
        Probe.due("what is kept is gone", 0, p.reader.kept(NONE));
        Probe.due("found is counted anew", 0, p.reader.count(3));
        Probe.due("not found is counted anew", 0, p.reader.count(4));
    }

    private static void plansForm() {
        Probe p = new Probe();
        p.plansFault("@", 1);
        p.plansFault("plan@", 1);
        p.plansFault("plan;@", 1);
        p.plansFault("plan;  @", 1);
        p.plansFault("@record a x int;", 1);
        p.plansFault("plan @record a x int;", 1);
        p.plansFault("plan;@plan;record a x int;", 1);
        p.plansFault("plan;record @record x int;", 1);
        p.plansFault("plan;record a@;", 1);
        p.plansFault("plan;record a x@;", 1);
        p.plansFault("plan;record a x int@", 1);
        p.plansFault("plan;record a x int,@;", 1);
        p.plansFault("plan;record a x int @y int;", 1);
        p.plansFault("plan;record a @int int;", 1);
        p.plansFault("plan;record a x @yes;", 1);
        p.plansFault("plan;record a x list@;", 1);
        p.plansFault("plan;record a x either int@;", 1);
        p.plansFault("plan;record a x either int or@;", 1);
        p.plansFault("plan;record a x int was@;", 1);
        p.plansFault("plan;record a x int was @flag;", 1);
        p.plansFault("plan;record a x int else 1 @was y;", 1);
        p.plansFault("plan;record a x int else@;", 1);
        p.plansFault("plan;record a x int else @{};", 1);
        p.plansFault("plan;record a x list int else [@1];", 1);
        p.plansFault("plan;record a x list int else [@", 1);
        p.plansFault("plan;record a x int;@;", 1);
        p.plansFault("plan;record a x int;@5", 1);
        p.plansFault("plan;record a x int;plan@", 1);
        p.plansDue("\n plan \n;record a x int was y else 5 ;  ", 1);
    }

    private static void plansTokens() {
        Probe p = new Probe();
        p.plansFault("@Plan;", 1);
        p.plansFault("plan@\t;", 1);
        p.plansFault("plan;record @abcdefghi x int;", 1);
        p.plansDue("plan;record abcdefgh x int;", 1);
        p.plansDue("plan;record a x long else 999999999999999999;", 1);
        p.plansFault("plan;record a x long else @1000000000000000000;", 1);
        p.plansFault("plan;record a x int else @-;", 1);
        p.plansFault("plan;record a x int else @- 1;", 1);
        p.plansFault("plan;record a x real else @1.;", 1);
        p.plansFault("plan;record a x real else @1.25;", 1);
        p.plansFault("plan;record a x real else @.5;", 1);
        p.plansDue("plan;record a x text else \"abcdefghijkl\";", 1);
        p.plansFault("plan;record a x text else @\"abcdefghijklm\";", 1);
        p.plansFault("plan;record a x text else @\"ab cd\";", 1);
        p.plansFault("plan;record a x text else @\"ab", 1);
        p.plansDue("plan;record a x text else\"\",y int else-5,z list int else[ ]\n;", 1);
    }

    private static void plansFaults() {
        Probe p = new Probe();
        String[] wrong = {"int else @none", "int else @yes", "int else @1.0", "int else @2147483648",
            "int else @-2147483649", "int else @\"a\"", "int else @[]", "long else @1.5", "flag else @1",
            "text else @none", "real else @\"a\"", "none else @no", "list int else @1", "a else @none",
            "either text or int else @1", "either a or none else @none", "int else @[ 5"};
        for (String type : wrong) {
            p.plansFault("plan;record a x " + type + ";", 2);
        }
        String[] right = {"int else 2147483647", "int else -2147483648", "long else 2147483648", "real else 5",
            "real else -0.5", "none else none", "flag else no", "text else \"\"", "list a else []",
            "either none or a else none", "either list int or a else []"};
        for (String type : right) {
            p.plansDue("plan;record a x " + type + ";", 1);
        }
        p.plansFault("plan;record a x int;record @a y int;", 3);
        p.plansFault("plan;record a x int,y int,@x int;", 3);
        p.plansFault("plan;record a x int was @x;", 3);
        p.plansDue("plan;record a x int was y,y int was x,z int was y;", 1);
        p.plansFault("plan;record a x int,y list @b,z c;record d x b;", 3);
        p.plansFault("plan;record a x @b;plan;record c y int;;", 3);
        p.plansFault("plan;record a x b;@5", 1);
        p.plansFault("plan;record a x b,@x b;", 3);
        p.plansDue("plan;record a x b;record b y a;plan;record b y int;", 2);
        p.plansFault("plan;record a x either int or @int;", 5);
        p.plansFault("plan;record a x either a or @b;record b y int;", 5);
        p.plansFault("plan;record a x either list int or text or @list text;", 5);
        p.plansFault("plan;record a x either @either int or text or flag;", 5);
        p.plansFault("plan;record a x either int or @either text or flag;", 5);
        p.plansDue("plan;record a x either int or list either text or flag;", 1);
    }

    private static void plansLimits() {
        Probe p = new Probe();
        String plan = "plan;record a x int;";
        p.plansDue(plan.repeat(6), 6);
        p.plansFault(plan.repeat(6) + "@" + plan, 4);
        p.plansFault("plan;record a x int;".repeat(5) + "plan;record a x @b;" + plan, 3);
        StringBuilder records = new StringBuilder("plan;");
        StringBuilder fields = new StringBuilder("plan;record a ");
        for (int k = 0; k < 6; k++) {
            records.append("record ").append((char) ('a' + k)).append(" x int;");
        }
        p.plansDue(records.toString(), 1);
        p.plansFault(records + "@record a y", 4);
        for (int k = 0; k < 8; k++) {
            fields.append(k == 0 ? "" : ",").append((char) ('a' + k)).append(" int");
        }
        p.plansDue(fields + ";", 1);
        p.plansFault(fields + ",@i int;", 4);
        p.plansFault(fields + ",@a int;", 3);
        p.plansDue("plan;record a x either int or text or flag or none;", 1);
        p.plansFault("plan;record a x either int or text or flag or none or @real;", 4);
        p.plansFault("plan;record a x either int or text or flag or none or @int;", 4);
        p.plansDue("plan;record a x list list list int;", 1);
        p.plansFault("plan;record a x list list list list @int;", 4);
        p.plansFault("plan;record a x list list list list @list int;", 4);
        p.plansFault("plan;record a x list list list either @either;", 4);
        p.plansFault("plan;record a x list list list list @yes;", 1);
        p.plansDue("plan;record a x list list either int or a;", 1);
    }

    private static void write() {
        Probe p = with("plan;record a n none else none,f flag else yes,i int else -1,l long else 300,"
                + "r real else 1.5,t text else \"hi\",k list int else [],e either text or int else \"z\";", 1);
        p.writeDue(0, 0, "{}", 1 + 1 + 2 + 8 + 3 + 1 + 3);
        p.bytesDue(0, 1, 1, 0xd8, 4, 0x3f, 0xf8, 0, 0, 0, 0, 0, 0, 4, 'h', 'i', 0, 0, 2, 'z');
        p.writeDue(1, 0, " { e 64 , k [ 0 , -1 , 63 , 64 , -65 ] , f no , t \"\" , r -2 , l -3 , i 2147483647 , n none } ", 27);
        p.bytesDue(1, 0, 0xfe, 0xff, 0xff, 0xff, 0xf, 5, 0xc0, 0, 0, 0, 0, 0, 0, 0, 0,
                10, 0, 1, 126, 0x80, 1, 0x81, 1, 2, 0x80, 1);
        Probe.due("message 0 stays", 19, p.reader.message(0, 0));
        Probe q = with("plan;record a x either long or real or list text or b;record b y int else 7;", 1);
        q.writeDue(0, 0, "{x 5}", 2);
        q.bytesDue(0, 0, 10);
        q.writeDue(0, 0, "{x 5.5}", 9);
        Probe.due("a number with a point is a real", 2, q.reader.byteAt(0, 0));
        q.writeDue(0, 0, "{x []}", 2);
        q.bytesDue(0, 4, 0);
        q.writeDue(0, 0, "{x {}}", 2);
        q.bytesDue(0, 6, 14);
        Probe r = with("plan;record a x either int or long;", 1);
        r.writeDue(0, 0, "{x 2147483648}", 6);
        r.bytesDue(0, 2, 0x80, 0x80, 0x80, 0x80, 0x10);
        r.writeDue(3, 0, "{x -999999999999999999}", 10);
    }

    private static void writeFaults() {
        Probe p = with("plan;record a x int,y list int else [],z either b or text ;record b p flag,q int else 1;", 1);
        p.feed("{x 1}");
        Probe.due("no such message", NONE, p.reader.write(4, 0, 5));
        Probe.due("no such message", NONE, p.reader.write(-1, 0, 5));
        Probe.due("no such plan", NONE, p.reader.write(0, 1, 5));
        Probe.due("no such plan", NONE, p.reader.write(0, -1, 5));
        Probe.due("not so many", NONE, p.reader.write(0, 0, 21));
        Probe.due("below 0", NONE, p.reader.write(0, 0, -1));
        Probe.due("the tape stays", 20, p.reader.count(5));
        p.reader.plans(0);
        p.writeDue(0, 0, "{x 1,z \"a\"}", 5);
        p.writeFault(0, 0, "@", 1);
        p.writeFault(0, 0, "@5", 2);
        p.writeFault(0, 0, "@[]", 2);
        p.writeFault(0, 0, "@x", 1);
        p.writeFault(0, 0, "@plan", 1);
        p.writeFault(0, 0, "{@", 1);
        p.writeFault(0, 0, "{@5", 1);
        p.writeFault(0, 0, "{@flag", 1);
        p.writeFault(0, 0, "{x@", 1);
        p.writeFault(0, 0, "{x@}", 1);
        p.writeFault(0, 0, "{x @y}", 1);
        p.writeFault(0, 0, "{x 1@", 1);
        p.writeFault(0, 0, "{x 1 @z \"a\"}", 1);
        p.writeFault(0, 0, "{x 1,@}", 1);
        p.writeFault(0, 0, "{x 1,z \"a\"} @}", 1);
        p.writeFault(0, 0, "{x 1,z \"a\"} @%", 1);
        p.writeFault(0, 0, "{x @1.5,z \"a\"}", 2);
        p.writeFault(0, 0, "{x @{}}", 2);
        p.writeFault(0, 0, "{x 1,y [@,", 1);
        p.writeFault(0, 0, "{x 1,y [1,@]", 1);
        p.writeFault(0, 0, "{x 1,y [1 @2]", 1);
        p.writeFault(0, 0, "{x 1,y [1,@none]", 2);
        p.writeFault(0, 0, "{x 1,z @5}", 2);
        p.writeFault(0, 0, "{@p 1}", 3);
        p.writeFault(0, 0, "{x 1,z \"a\",@x none}", 3);
        p.writeFault(0, 0, "{x 1@}", 6);
        p.writeFault(0, 0, "{x 1,z {q 5@}}", 6);
        p.writeFault(0, 0, "{z {p yes,@x 1}}", 3);
        p.writeDue(1, 0, "{z{p yes},x1}", 5);
        p.bytesDue(1, 2, 0, 0, 1, 2);
        Probe.due("the message stays as it was", 5, p.reader.message(0, 0));
    }

    private static void writeLimits() {
        Probe p = with("plan;record a x list text,y list none else [];", 1);
        String twelve = "\"abcdefghijkl\"";
        String thirty = (twelve + ",").repeat(30);
        p.writeDue(0, 0, "{x [" + thirty + "\"abcdef\"]}", 399);
        p.writeDue(0, 0, "{x [" + thirty + "\"abcdefg\"]}", 400);
        p.writeFault(0, 0, "{x [" + thirty + "\"abcdefgh\"]}  @", 7);
        p.writeFault(0, 0, "{x [" + thirty + "\"abcdefgh\"]}  @}", 1);
        Probe.due("the message stays", 400, p.reader.message(0, 0));
        p.plansDue("plan;record a x list int;", 1);
        p.writeDue(0, 0, "{x [" + "1,".repeat(199) + "1]}", 202);
        p.writeFault(0, 0, "{x [" + "1,".repeat(200) + "@1]}", 4);
        p.writeFault(0, 0, "{x [" + "1,".repeat(200) + "@yes]}", 2);
        p.plansDue(RING, 1);
        String ring = "{v 1,next ";
        p.writeDue(0, 0, ring.repeat(30) + "none" + "}".repeat(30), 60);
        p.writeFault(0, 0, ring.repeat(30) + "{v @1,next none" + "}".repeat(31), 4);
        p.writeFault(0, 0, ring.repeat(30) + "{v @yes,next none" + "}".repeat(31), 2);
        p.plansDue("plan;record n v int else 0,next either none or n else none;", 1);
        p.writeDue(0, 0, "{next ".repeat(30) + "{}" + "}".repeat(30), 62);
        p.writeFault(0, 0, "{next ".repeat(31) + "@{}" + "}".repeat(31), 4);
        Probe.due("what lies too deep is written by else, but not read", -3, p.reader.read(0, 0));
        Probe.due("kind", 16, p.reader.failure(0));
        p.plansDue("plan;record a x list b;record b r real else 1,s real else 1,t text else \"abcdefghijkl\";", 1);
        p.writeDue(0, 0, "{x [" + "{},".repeat(12) + "{}]}", 1 + 13 * 29);
        p.writeFault(0, 0, "{x [" + "{},".repeat(199) + "{}]}@", 7);
    }

    private static void record() {
        Probe p = with("plan;record a x int;record longname y int,z int;plan;record bc u int;", 2);
        Probe.due("records", 2, p.reader.record(0, NONE, 0));
        Probe.due("records, whatever what is", 2, p.reader.record(0, NONE, 77));
        Probe.due("records", 1, p.reader.record(1, NONE, -5));
        Probe.due("fields", 2, p.reader.record(0, 1, 0));
        Probe.due("letters", 8, p.reader.record(0, 1, 1));
        Probe.due("letters", 2, p.reader.record(1, 0, 1));
        int[][] none = {{2, 0, 0}, {-1, 0, 0}, {2, -1, 0}, {0, 2, 0}, {0, -2, 0}, {0, 0, 2}, {0, 0, -1}, {1, 1, 0}};
        for (int[] a : none) {
            Probe.due("others", NONE, p.reader.record(a[0], a[1], a[2]));
        }
    }

    private static void field() {
        Probe p = with("plan;record a n none,f flag else yes,i int was old,l long,r real,t text,k list list b,e either b or text;"
                + "record b x a,longname list either int or b,z list int was y else [];", 1);
        int[] sorts = {0, 1, 2, 3, 4, 5, 6, 8};
        for (int k = 0; k < sorts.length; k++) {
            Probe.due("sort of " + k, sorts[k], p.reader.field(0, 0, k, 0));
            Probe.due("else of " + k, k == 1 ? 1 : 0, p.reader.field(0, 0, k, 1));
            Probe.due("was of " + k, k == 2 ? 1 : 0, p.reader.field(0, 0, k, 2));
            Probe.due("letters of " + k, 1, p.reader.field(0, 0, k, 3));
            Probe.due("branches of " + k, k == 7 ? 2 : 0, p.reader.field(0, 0, k, 4));
            Probe.due("record of " + k, k == 6 ? 1 : NONE, p.reader.field(0, 0, k, 5));
        }
        Probe.due("a record", 7, p.reader.field(0, 1, 0, 0));
        Probe.due("its number", 0, p.reader.field(0, 1, 0, 5));
        Probe.due("a list of an either has no record", NONE, p.reader.field(0, 1, 1, 5));
        Probe.due("a list of an either has no branches", 0, p.reader.field(0, 1, 1, 4));
        Probe.due("letters", 8, p.reader.field(0, 1, 1, 3));
        Probe.due("was and else", 2, p.reader.field(0, 1, 2, 1) + p.reader.field(0, 1, 2, 2));
        int[][] none = {{1, 0, 0, 0}, {-1, 0, 0, 0}, {0, 2, 0, 0}, {0, -1, 0, 0}, {0, 0, 8, 0}, {0, 1, 3, 0},
            {0, 0, -1, 0}, {0, 0, 0, 6}, {0, 0, 0, -1}};
        for (int[] a : none) {
            Probe.due("others", NONE, p.reader.field(a[0], a[1], a[2], a[3]));
        }
    }

    private static void message() {
        Probe p = with("plan;record a x text;plan;record b y none;", 2);
        p.writeDue(2, 0, "{x \"abc\"}", 4);
        p.writeDue(3, 1, "{y none}", 0);
        Probe.due("bytes", 4, p.reader.message(2, 0));
        Probe.due("plan", 0, p.reader.message(2, 1));
        Probe.due("no bytes", 0, p.reader.message(3, 0));
        Probe.due("plan", 1, p.reader.message(3, 1));
        int[][] none = {{0, 0}, {1, 1}, {-1, 0}, {4, 0}, {2, 2}, {2, -1}};
        for (int[] a : none) {
            Probe.due("others", NONE, p.reader.message(a[0], a[1]));
        }
    }

    private static void byteAt() {
        Probe p = with("plan;record a x int;", 1);
        p.writeDue(0, 0, "{x -65}", 2);
        Probe.due("bytes are 0 to 255", 129, p.reader.byteAt(0, 0));
        Probe.due("the last one", 1, p.reader.byteAt(0, 1));
        int[][] none = {{0, 2}, {0, -1}, {1, 0}, {-1, 0}, {4, 0}, {0, Integer.MAX_VALUE}, {Integer.MIN_VALUE, 0}};
        for (int[] a : none) {
            Probe.throwsDue("byteAt", () -> p.reader.byteAt(a[0], a[1]));
        }
    }

    private static void spoilAndCut() {
        Probe p = with("plan;record a x int,y int;", 1);
        p.writeDue(0, 0, "{x -65,y 1}", 3);
        Probe.due("spoil", 129, p.reader.spoil(0, 0, 0x1ff));
        Probe.due("the lowest 8 bits alone", 126, p.reader.byteAt(0, 0));
        Probe.due("spoil back", 126, p.reader.spoil(0, 0, -1));
        Probe.due("as it was", 129, p.reader.byteAt(0, 0));
        int[][] none = {{0, 3}, {0, -1}, {1, 0}, {-1, 0}, {4, 0}};
        for (int[] a : none) {
            Probe.due("spoil others", NONE, p.reader.spoil(a[0], a[1], 1));
        }
        int[][] notCut = {{0, 4}, {0, -1}, {1, 0}, {-1, 0}, {4, 0}};
        for (int[] a : notCut) {
            Probe.due("cut others", NONE, p.reader.cut(a[0], a[1]));
        }
        Probe.due("cut nothing off", 3, p.reader.cut(0, 3));
        Probe.due("cut", 3, p.reader.cut(0, 1));
        Probe.due("not so many", NONE, p.reader.cut(0, 2));
        Probe.throwsDue("what was cut off", () -> p.reader.byteAt(0, 1));
        Probe.due("spoil what was cut off", NONE, p.reader.spoil(0, 1, 1));
        Probe.due("cut all", 1, p.reader.cut(0, 0));
        Probe.due("it is still written", 0, p.reader.message(0, 0));
    }

    private static int match(String writer, String reader) {
        return with("plan;" + writer + "plan;" + reader, 2).reader.matches(0, 1);
    }

    private static void matches() {
        String[] plain = {"none", "flag", "int", "long", "real", "text"};
        for (int w = 0; w < 6; w++) {
            for (int r = 0; r < 6; r++) {
                boolean good = w == r || w == 2 && (r == 3 || r == 4) || w == 3 && r == 4;
                Probe.due(plain[w] + " read as " + plain[r], good ? 0 : 2,
                        match("record a x " + plain[w] + ";", "record a x " + plain[r] + ";"));
                Probe.due("lists of " + plain[w] + " read as " + plain[r], good ? 0 : 2,
                        match("record a x list " + plain[w] + ";", "record a x list " + plain[r] + ";"));
            }
        }
        Probe.due("roots of other names", 0, match("record a x int;", "record b x int;"));
        Probe.due("roots inside too", 0, match("record a x either none or a;", "record b x either none or b;"));
        Probe.due("records of other names", 2, match("record a x b;record b y int;", "record a x c;record c y int;"));
        Probe.due("no such field, an else", 0, match("record a x int;", "record a y int else 1;"));
        Probe.due("no such field", 2, match("record a x int;", "record a y int;"));
        Probe.due("what it was", 0, match("record a x int;", "record a y long was x;"));
        Probe.due("its name goes ahead of what it was", 2, match("record a x int,y text;", "record a y int was x;"));
        Probe.due("an else does not help a type", 2, match("record a x text;", "record a x int else 1;"));
        Probe.due("rings", 0, match("record a x a,y int;", "record a x a,y real;"));
        Probe.due("rings with something against it", 2, match("record a x b;record b y a,z text;", "record a x b;record b y a,z int;"));
        Probe.due("one branch at least", 1, match("record a x either int or text;", "record a x int;"));
        Probe.due("no branch", 2, match("record a x either int or text;", "record a x flag;"));
        Probe.due("into an either", 0, match("record a x int;", "record a x either text or long;"));
        Probe.due("into no either", 2, match("record a x flag;", "record a x either text or long;"));
        Probe.due("lists of eithers", 1, match("record a x list either int or text;", "record a x list text;"));
        Probe.due("a list is no int", 2, match("record a x list int;", "record a x int;"));
        Probe p = with("plan;record a x int;", 1);
        Probe.due("others", NONE, p.reader.matches(1, 0));
        Probe.due("others", NONE, p.reader.matches(0, 1));
        Probe.due("others", NONE, p.reader.matches(-1, 0));
        Probe.due("others", NONE, p.reader.matches(0, -1));
    }

    private static void miss() {
        Probe p = with("plan;record a x list either int or b or text,y list list text,z b,u flag;"
                + "record b p a,q text,s either none or flag;"
                + "plan;record a y list list int,m int,u either int or text,x list either flag or b or real,z b;"
                + "record b q text,s none,p a,t real;", 2);
        Probe.due("roots do not match", 2, p.reader.matches(0, 1));
        p.missDue(0, 1, 0, 2, 0, 100, 100);
        p.missDue(0, 1, 1, 1, 1);
        p.missDue(0, 1, 2, 3, 2);
        p.missDue(0, 1, 3, 4, 3, 100, 201);
        p.missDue(0, 1, 4, 4, 3, 100, 202);
        p.missDue(0, 1, 5, 4, 4, 1, 201);
        p.missDue(0, 1, 6, 1, 4, 3);
        Probe.due("misses", 7, p.reader.miss(0, 1, NONE, 0));
        Probe.due("misses, whatever what is", 7, p.reader.miss(0, 1, NONE, 9));
        Probe.due("no miss", 0, p.reader.miss(0, 0, NONE, 0));
        int[][] none = {{0, 1, 7, 0}, {0, 1, -2, 0}, {0, 1, 0, 2}, {0, 1, 0, -1}, {0, 2, 0, 0}, {2, 0, 0, 0}, {-1, 0, -1, 0}};
        for (int[] a : none) {
            Probe.due("others", NONE, p.reader.miss(a[0], a[1], a[2], a[3]));
        }
        int[][] noStep = {{0, 1, 0, 3}, {0, 1, 0, -1}, {0, 1, 7, 0}, {0, 1, -1, 0}, {0, 2, 0, 0}, {-1, 1, 0, 0}};
        for (int[] a : noStep) {
            Probe.due("no step", NONE, p.reader.missStep(a[0], a[1], a[2], a[3]));
        }
        chosenMisses();
        manyMisses();
    }

    private static void chosenMisses() {
        Probe p = with("plan;record a x int,y list either int or text;"
                + "plan;record a x either real or text or long,y either text or list int;", 2);
        Probe.due("partly", 1, p.reader.matches(0, 1));
        Probe.due("one miss below what is chosen", 1, p.reader.miss(0, 1, NONE, 0));
        p.missDue(0, 1, 0, 4, 1, 100, 201);
        Probe q = with("plan;record a x b,y b;record b p either int or text;plan;record a x b,y b;record b p int;", 2);
        Probe.due("a pair is looked at once", 1, q.reader.miss(0, 1, NONE, 0));
        q.missDue(0, 1, 0, 4, 0, 0, 201);
        Probe r = with("plan;record a x list b;record b p int;plan;record a x list c;record c p int;", 2);
        r.missDue(0, 1, 0, 2, 0, 100);
    }

    private static void manyMisses() {
        StringBuilder text = new StringBuilder("plan;");
        for (int k = 0; k < 3; k++) {
            text.append("record ").append((char) ('a' + k)).append(" z ").append((char) ('a' + (k + 1) % 3)).append(';');
        }
        text.append("plan;");
        for (int k = 0; k < 3; k++) {
            text.append("record ").append((char) ('a' + k)).append(" z ").append((char) ('a' + (k + 1) % 3));
            for (int f = 0; f < 7; f++) {
                text.append(',').append((char) ('p' + f)).append(" int");
            }
            text.append(';');
        }
        Probe p = with(text.toString(), 2);
        Probe.due("20 misses at most", 20, p.reader.miss(0, 1, NONE, 0));
        p.missDue(0, 1, 0, 1, 0, 0, 1);
        p.missDue(0, 1, 7, 1, 0, 1);
        p.missDue(0, 1, 19, 1, 6);
        Probe.due("none beyond", NONE, p.reader.miss(0, 1, 20, 0));
    }

    private static void readers() {
        Probe p = with("plan;record a x either int or text;plan;record a x int;plan;record a x either long or text;"
                + "plan;record a y flag;plan;record a z int else 1;", 5);
        Probe.due("as a whole", 1 + 4 + 16, p.reader.readers(0, 0));
        Probe.due("or partly", 1 + 2 + 4 + 16, p.reader.readers(0, 1));
        Probe.due("of an int", 1 + 2 + 4 + 16, p.reader.readers(1, 0));
        Probe.due("of a flag", 8 + 16, p.reader.readers(3, 1));
        Probe.due("others", NONE, p.reader.readers(0, 2));
        Probe.due("others", NONE, p.reader.readers(0, -1));
        Probe.due("others", NONE, p.reader.readers(5, 0));
        Probe.due("others", NONE, p.reader.readers(-1, 0));
    }

    private static void read() {
        Probe p = with("plan;record a x int,y list b,z text,w either text or int;record b p long,q flag;"
                + "plan;record c w either int or long or text,n text else \"new\",y list b,v real was x,k either list a or none else [];"
                + "record b q flag;record a m int;"
                + "plan;record a y flag;", 3);
        p.writeDue(0, 0, "{x -7,y [{p 1,q yes},{p 2,q no}],z \"skip\",w 9}", 13);
        Probe.due("nodes", 10, p.reader.read(0, 1));
        p.nodeDue(0, 7, NONE, 0, 5, 0, 0);
        p.nodeDue(1, 2, 0, 0, 0, 0, 9);
        p.nodeDue(2, 5, 0, 1, 3, 1, 0);
        p.lettersDue(2, "new");
        p.nodeDue(3, 6, 0, 2, 2, 0, 0);
        p.nodeDue(4, 7, 3, 0, 1, 0, 0);
        p.nodeDue(5, 1, 4, 0, 0, 0, 1);
        p.nodeDue(6, 7, 3, 1, 1, 0, 0);
        p.nodeDue(7, 1, 6, 0, 0, 0, 0);
        p.nodeDue(8, 4, 0, 3, 0, 0, Double.doubleToLongBits(-7.0));
        p.nodeDue(9, 6, 0, 4, 0, 1, 0);
        Probe.due("roots do not match", -2, p.reader.read(0, 2));
        Probe.due("nodes are none", 0, p.reader.count(2));
        Probe.due("read again", 10, p.reader.read(0, 1));
        int[][] none = {{1, 0}, {-1, 0}, {4, 0}, {0, 3}, {0, -1}};
        for (int[] a : none) {
            Probe.due("others", NONE, p.reader.read(a[0], a[1]));
        }
        Probe.due("nodes stay", 10, p.reader.count(2));
        p.reader.cut(0, 3);
        Probe.due("a failure", -3, p.reader.read(0, 1));
        Probe.due("nodes are none", 0, p.reader.count(2));
    }

    private static void readTwice() {
        Probe p = with("plan;record a x either int or text,y int;plan;record a p either text or real was x,y int,q either int or text was x;"
                + "plan;record a p int was x,q text was x;", 3);
        p.writeDue(0, 0, "{x 5,y 6}", 3);
        Probe.due("one field read as two", 4, p.reader.read(0, 1));
        p.nodeDue(1, 4, 0, 0, 0, 0, Double.doubleToLongBits(5.0));
        p.nodeDue(2, 2, 0, 1, 0, 0, 6);
        p.nodeDue(3, 2, 0, 2, 0, 0, 5);
        Probe.due("the second one does not take it", -3, p.reader.read(0, 2));
        p.failureDue(13, 0, 0, 200);
        p.writeDue(0, 0, "{x \"ab\",y 6}", 5);
        Probe.due("the first one does not take it", -3, p.reader.read(0, 2));
        p.failureDue(13, 0, 0, 201);
    }

    private static void failureKinds() {
        Probe p = with("plan;record a f flag,i int,l long,r real,t text,k list flag,e either none or flag;plan;record a z int else 1;", 2);
        String text = "{f yes,i 300,l 300,r 1.5,t \"abc\",k [yes,no],e yes}";
        p.writeDue(0, 0, text, 22);
        p.bytesDue(0, 1, 0xd8, 4, 0xd8, 4, 0x3f, 0xf8, 0, 0, 0, 0, 0, 0, 6, 'a', 'b', 'c', 4, 1, 0, 2, 1);
        for (int plan = 0; plan < 2; plan++) {
            spoiltDue(p, text, plan, 0, 2, 12, 0, 0);
            spoiltDue(p, text, plan, 13, 6 ^ 26, 12, 13, 4);
            spoiltDue(p, text, plan, 13, 6 ^ 1, 12, 13, 4);
            spoiltDue(p, text, plan, 15, 128, 12, 13, 4);
            spoiltDue(p, text, plan, 16, 'c' ^ 'z' + 1, 12, 13, 4);
            spoiltDue(p, text, plan, 17, 4 ^ 5, 12, 17, 5);
            spoiltDue(p, text, plan, 19, 2, 12, 19, 5, 101);
            spoiltDue(p, text, plan, 20, 4 ^ 2, 12, 20, 6);
            spoiltDue(p, text, plan, 20, 1 ^ 2, 12, 20, 6);
            spoiltDue(p, text, plan, 21, 2, 12, 21, 6, 201);
            spoiltDue(p, text, plan, 20, 2, 14, 21);
            int[] steps = {0, 1, 1, 2, 2, 3, 3, 3, 3, 3, 3, 3, 3, 4, 4, 4, 4, 5};
            for (int n = 0; n < steps.length; n++) {
                p.write(0, 0, text);
                p.reader.cut(0, n);
                Probe.due("read of " + n + " bytes", -3, p.reader.read(0, plan));
                p.failureDue(11, n, steps[n]);
            }
            p.write(0, 0, text);
            p.reader.cut(0, 19);
            Probe.due("read", -3, p.reader.read(0, plan));
            p.failureDue(11, 19, 5, 101);
            p.write(0, 0, text);
            p.reader.cut(0, 21);
            Probe.due("read", -3, p.reader.read(0, plan));
            p.failureDue(11, 21, 6, 201);
        }
        numbers();
    }

    private static void spoiltDue(Probe p, String text, int plan, int i, int mask, int kind, int at, int... path) {
        p.write(0, 0, text);
        p.reader.spoil(0, i, mask);
        Probe.due("read with byte " + i + " spoilt by " + mask, -3, p.reader.read(0, plan));
        p.failureDue(kind, at, path);
    }

    private static void numbers() {
        Probe p = with("plan;record a x long,t text;plan;record a x int,t text;", 2);
        String text = "{x 5,t \"abcdefghijkl\"}";
        int m = 128;
        p.put(0, 0, text, 255, 255, 255, 255, 255, 255, 255, 255, 255, 1, 0);
        Probe.due("the least long", 3, p.reader.read(0, 0));
        Probe.due("its value", Long.MIN_VALUE, p.reader.value(1));
        p.put(0, 0, text, 254, 255, 255, 255, 255, 255, 255, 255, 255, 1, 0);
        Probe.due("the greatest long", 3, p.reader.read(0, 0));
        Probe.due("its value", Long.MAX_VALUE, p.reader.value(1));
        p.put(0, 0, text, m, m, m, m, m, m, m, m, m, 0, m, 0);
        Probe.due("parts of 0", 3, p.reader.read(0, 0));
        Probe.due("its value", 0, p.reader.value(1));
        p.put(0, 0, text, m, m, m, m, m, m, m, m, m, 2, 0);
        Probe.due("a tenth byte above 1", -3, p.reader.read(0, 0));
        p.failureDue(12, 0, 0);
        p.put(0, 0, text, m, m, m, m, m, m, m, m, m, m, 0, 0);
        Probe.due("an eleventh byte", -3, p.reader.read(0, 0));
        p.failureDue(12, 0, 0);
        p.put(0, 0, text, m, m, m, m, m, m, m, m, m);
        Probe.due("nine bytes", -3, p.reader.read(0, 0));
        p.failureDue(11, 9, 0);
        p.put(0, 1, text, 254, 255, 255, 255, 15, 0);
        Probe.due("the greatest int", 3, p.reader.read(0, 1));
        Probe.due("its value", Integer.MAX_VALUE, p.reader.value(1));
        p.put(0, 1, text, m, m, m, m, 16, 0);
        Probe.due("no int", -3, p.reader.read(0, 1));
        p.failureDue(12, 0, 0);
        p.put(0, 1, text, 4, 24, 'a', 'a');
        Probe.due("letters end too soon", -3, p.reader.read(0, 1));
        p.failureDue(11, 4, 1);
        p.put(0, 1, text, 4, 24, 'a', 'A');
        Probe.due("a letter that is none is met ahead of the end", -3, p.reader.read(0, 1));
        p.failureDue(12, 1, 1);
    }

    private static void failurePaths() {
        Probe p = with("plan;record a p int,x list either b or list flag or text,y int;record b u int,v either flag or a;"
                + "plan;record a x list either list flag or b;record b v flag;plan;record a y int;", 3);
        String text = "{p 1,x [[no],{u 1,v yes},\"a\"],y 3}";
        p.writeDue(0, 0, text, 13);
        p.bytesDue(0, 2, 6, 2, 2, 0, 0, 2, 0, 1, 4, 2, 'a', 6);
        Probe.due("a branch that does not match", -3, p.reader.read(0, 1));
        p.failureDue(13, 9, 1, 102, 202);
        Probe.due("what the reader has not may be any branch", 2, p.reader.read(0, 2));
        spoiltDue(p, text, 1, 4, 2, 12, 4, 1, 100, 201, 100);
        spoiltDue(p, text, 1, 8, 2, 12, 8, 1, 101, 200, 1, 200);
        spoiltDue(p, text, 1, 7, 2, 13, 7, 1, 101, 200, 1, 201);
        spoiltDue(p, text, 2, 4, 2, 12, 4, 1, 100, 201, 100);
        spoiltDue(p, text, 2, 8, 2, 12, 8, 1, 101, 200, 1, 200);
        spoiltDue(p, text, 2, 2, 2 ^ 6, 12, 2, 1, 100);
        spoiltDue(p, text, 1, 2, 2 ^ 4, 13, 2, 1, 100, 202);
        int[][] none = {{3}, {-1}};
        for (int[] a : none) {
            Probe.due("failure of others", NONE, p.reader.failure(a[0]));
        }
        Probe.due("no step", NONE, p.reader.failureStep(-1));
        Probe.due("no step", NONE, p.reader.failureStep(3));
    }

    private static int[] ringPath(int records, int... last) {
        int[] path = new int[2 * records + last.length];
        for (int k = 0; k < records; k++) {
            path[2 * k] = 1;
            path[2 * k + 1] = 201;
        }
        System.arraycopy(last, 0, path, 2 * records, last.length);
        return path;
    }

    private static void failureLimits() {
        Probe p = with(RING + "plan;record n next either none or n;plan;record n z int else 0;"
                + "plan;record m q list list none else [],k list o else [];record o p none else none,r flag else yes;"
                + "plan;record m k list o,q list list none else [],t text else \"a\";record o r flag;", 5);
        String ring = "{v 1,next ";
        p.writeDue(0, 0, ring.repeat(30) + "none" + "}".repeat(30), 60);
        Probe.due("30 levels of records", 61, p.reader.read(0, 0));
        Probe.due("the deepest has 30 around it", 7, p.reader.node(58, 0));
        p.reader.spoil(0, 59, 2);
        Probe.due("a value within 31 others", -3, p.reader.read(0, 0));
        p.failureDue(16, 60, ringPath(30, 0));
        Probe.due("what is skipped, too", -3, p.reader.read(0, 2));
        p.failureDue(16, 60, ringPath(30, 0));
        String many = "none,".repeat(99) + "none";
        p.writeDue(1, 3, "{k [],q [[" + many + "]]}", 4);
        Probe.due("100 items", 104, p.reader.read(1, 3));
        p.put(1, 3, "{k [" + "{},".repeat(20) + "{}],q [[],[],[]]}", 4, 0x90, 3, 0x90, 3, 0);
        Probe.due("a 401st node", -3, p.reader.read(1, 3));
        p.failureDue(15, NONE);
        p.put(1, 3, "{k [" + "{},".repeat(20) + "{}],q [[],[],[]]}", 4, 0x90, 3, 0x84, 3, 0);
        Probe.due("399 nodes", 399, p.reader.read(1, 3));
        p.put(1, 3, "{k [" + "{},".repeat(20) + "{}],q [[],[],[]]}", 4, 0x90, 3, 0x86, 3, 0);
        Probe.due("400 nodes", 400, p.reader.read(1, 3));
        Probe.due("what else tells is the 401st", -3, p.reader.read(1, 4));
        p.failureDue(15, NONE);
        p.put(1, 3, "{k [" + "{},".repeat(20) + "{}],q [[],[],[]]}", 4, 0x90, 3, 0x90, 3, 0, 7);
        Probe.due("the 401st node is met ahead of what is left over", -3, p.reader.read(1, 3));
        p.failureDue(15, NONE);
        p.put(1, 3, "{k [" + "{},".repeat(20) + "{}],q [[],[],[]]}", 4, 0x90, 3, 0x86, 3, 0, 7);
        Probe.due("bytes are left over", -3, p.reader.read(1, 3));
        p.failureDue(14, 6);
    }

    private static void latestFailure() {
        Probe p = with("plan;record a x int;plan;record a x text;", 2);
        p.writeDue(0, 0, "{x 1}", 1);
        p.writeDue(1, 0, "{x 1}", 1);
        p.reader.cut(0, 0);
        Probe.due("read", -3, p.reader.read(0, 0));
        Probe.due("failure", 11, p.reader.failure(0));
        Probe.due("no read of its own", -3, p.reader.alike(0, 1, 0));
        Probe.due("alike", -2, p.reader.alike(1, 1, 1));
        Probe.due("alike", 1, p.reader.alike(1, 1, 0));
        p.failureDue(11, 0, 0);
        Probe.due("read", -2, p.reader.read(1, 1));
        Probe.due("failure behind a -2", NONE, p.reader.failure(0));
        Probe.due("failureStep behind a -2", NONE, p.reader.failureStep(0));
        Probe.due("convert", -3, p.reader.convert(0, 0, 2));
        p.failureDue(11, 0, 0);
        Probe.due("read", 2, p.reader.read(1, 0));
        Probe.due("failure behind nodes", NONE, p.reader.failure(0));
        Probe.due("failureStep behind nodes", NONE, p.reader.failureStep(0));
    }

    private static void node() {
        Probe p = with("plan;record a x list either int or b,y text else \"ab\";record b z none;plan;record a x list either int or b,y text else \"\",w flag else no;record b z none;", 2);
        p.writeDue(0, 0, "{x [4,{z none}]}", 7);
        Probe.due("read", 7, p.reader.read(0, 1));
        p.nodeDue(0, 7, NONE, 0, 3, 0, 0);
        p.nodeDue(1, 6, 0, 0, 2, 0, 0);
        p.nodeDue(2, 2, 1, 0, 0, 0, 4);
        p.nodeDue(3, 7, 1, 1, 1, 0, 0);
        p.nodeDue(4, 0, 3, 0, 0, 0, 0);
        p.nodeDue(5, 5, 0, 1, 2, 0, 0);
        p.nodeDue(6, 1, 0, 2, 0, 1, 0);
        int[][] none = {{7, 0}, {-1, 0}, {0, 5}, {0, -1}, {Integer.MAX_VALUE, 0}};
        for (int[] a : none) {
            Probe.throwsDue("node", () -> p.reader.node(a[0], a[1]));
        }
        p.reader.cut(0, 0);
        Probe.due("nodes stay as their message changes", 2, p.reader.node(5, 3));
    }

    private static void value() {
        Probe p = with("plan;record a f flag,i int,l long,r real,t text,n none;"
                + "plan;record a i real,l real,r real,f flag;", 2);
        String[] reals = {"0.0", "-0.0", "0.1", "-0.1", "0.5", "1", "-1", "1.5", "3.7", "-2147483648.9", "999999999999999999.9",
            "-999999999999999999", "123456789012345678.4", "9007199254740993", "4503599627370497.5", "0", "12.3"};
        double[] worths = {0.0, -0.0, 0.1, -0.1, 0.5, 1, -1, 1.5, 3 + 7 / 10.0, -(2147483648.0 + 9 / 10.0), 999999999999999999L + 0.9,
            -999999999999999999L, 123456789012345678L + 0.4, 9007199254740993L, 4503599627370497L + 0.5, 0, 12 + 3 / 10.0};
        for (int k = 0; k < reals.length; k++) {
            p.writeDue(0, 0, "{f yes,i -5,l 4,r " + reals[k] + ",t \"a\",n none}", 13);
            Probe.due("read", 7, p.reader.read(0, 0));
            Probe.due("bits of " + reals[k], Double.doubleToLongBits(worths[k]), p.reader.value(4));
        }
        long[] values = {0, 1, -5, 4, Double.doubleToLongBits(worths[worths.length - 1]), 0, 0};
        for (int i = 0; i < values.length; i++) {
            Probe.due("value " + i, values[i], p.reader.value(i));
        }
        Probe.throwsDue("value", () -> p.reader.value(7));
        Probe.throwsDue("value", () -> p.reader.value(-1));
        long[] wholes = {0, 1, -1, 63, 2147483647L, 4611686018427387904L, 9223372036854775807L, -9223372036854775807L - 1,
            9007199254740993L, -9007199254740995L, 1152921504606846977L, 999999999999999999L};
        for (long whole : wholes) {
            widened(p, whole);
        }
        p.writeDue(0, 0, "{f yes,i 7,l 4,r 0,t \"\",n none}", 12);
        int[] odd = {0x7f, 0xf0, 0, 0, 0, 0, 0, 1};
        int[] far = {0xff, 0xf0, 0, 0, 0, 0, 0, 0};
        for (int k = 0; k < 8; k++) {
            p.reader.spoil(0, 3 + k, odd[k]);
        }
        Probe.due("read of no number", 7, p.reader.read(0, 0));
        Probe.due("all that are no numbers are one", 0x7ff8000000000000L, p.reader.value(4));
        Probe.due("convert of no number", 12, p.reader.convert(0, 0, 1));
        Probe.due("its bytes are those of the one", 0xf8, p.reader.byteAt(1, 4));
        for (int k = 0; k < 8; k++) {
            p.reader.spoil(0, 3 + k, odd[k] ^ far[k]);
        }
        Probe.due("read of what is without end", 7, p.reader.read(0, 0));
        Probe.due("its bits", 0xfff0000000000000L, p.reader.value(4));
    }

    private static void widened(Probe p, long whole) {
        p.write(0, 0, "{f yes,i 7,l 999999999999999999,r 0,t \"\",n none}");
        int[] parts = new int[24];
        int many = 0;
        long rest = whole << 1 ^ whole >> 63;
        parts[many++] = 1;
        parts[many++] = 14;
        do {
            parts[many++] = (int) (rest & 127) | ((rest >>> 7) != 0 ? 128 : 0);
            rest >>>= 7;
        } while (rest != 0);
        many += 9;
        int size = p.reader.message(0, 0);
        if (size < many) {
            p.write(0, 0, "{f yes,i 7,l 999999999999999999,r 0,t \"aaaaaaa\",n none}");
        }
        for (int i = 0; i < many; i++) {
            p.reader.spoil(0, i, p.reader.byteAt(0, i) ^ parts[i]);
        }
        p.reader.cut(0, many);
        Probe.due("read of " + whole, 5, p.reader.read(0, 1));
        Probe.due("an int widened", Double.doubleToLongBits(7.0), p.reader.value(1));
        Probe.due("a long widened", Double.doubleToLongBits((double) whole), p.reader.value(2));
    }

    private static void letter() {
        Probe p = with("plan;record a t text,u text else \"xyz\",v int else 5;", 1);
        p.writeDue(0, 0, "{t \"abyzabcdefgz\"}", 18);
        Probe.due("read", 4, p.reader.read(0, 0));
        p.lettersDue(1, "abyzabcdefgz");
        p.lettersDue(2, "xyz");
        Probe.due("the first", 1, p.reader.letter(1, 0));
        Probe.due("the twelfth", 26, p.reader.letter(1, 11));
        Probe.due("not so many", 0, p.reader.letter(1, 12));
        Probe.due("not so many", 0, p.reader.letter(1, Integer.MAX_VALUE));
        Probe.due("not so many", 0, p.reader.letter(2, 3));
        int[][] none = {{0, 0}, {3, 0}, {4, 0}, {-1, 0}, {1, -1}};
        for (int[] a : none) {
            Probe.throwsDue("letter", () -> p.reader.letter(a[0], a[1]));
        }
    }

    private static void convert() {
        Probe p = with("plan;record a x int,y text,z list int;plan;record a n flag else yes,z either text or list real,x either flag or none or long,"
                + "w either list b or none else [];record b v int;plan;record a q flag;plan;record a x text else \"a\",z int;", 4);
        p.writeDue(0, 0, "{x 3,y \"ab\",z [1,-2]}", 7);
        Probe.due("convert", 1 + 1 + 1 + 16 + 1 + 1 + 1 + 1, p.reader.convert(0, 1, 2));
        p.bytesDue(2, 1, 2, 4, 0x3f, 0xf0, 0, 0, 0, 0, 0, 0, 0xc0, 0, 0, 0, 0, 0, 0, 0, 4, 6, 0, 0);
        Probe.due("its plan", 1, p.reader.message(2, 1));
        Probe.due("nodes as read() would have them", 7, p.reader.count(2));
        Probe.due("what else told", 1, p.reader.node(6, 4));
        Probe.due("no match", -2, p.reader.convert(0, 2, 1));
        Probe.due("nodes are none", 0, p.reader.count(2));
        Probe.due("nothing was written", 5, p.reader.count(1));
        Probe.due("convert into itself", 23, p.reader.convert(0, 1, 0));
        Probe.due("its plan", 1, p.reader.message(0, 1));
        Probe.due("as the other", 1, p.reader.alike(0, 2, 1));
        int kept = p.reader.kept(NONE);
        int[][] none = {{1, 0, 0}, {-1, 0, 0}, {4, 0, 0}, {0, 4, 0}, {0, -1, 0}, {0, 1, 4}, {0, 1, -1}};
        for (int[] a : none) {
            Probe.due("others", NONE, p.reader.convert(a[0], a[1], a[2]));
        }
        Probe.due("refused ones use no pair", kept, p.reader.kept(NONE));
        p.reader.cut(0, 22);
        Probe.due("a failure", -3, p.reader.convert(0, 1, 2));
        Probe.due("kind", 11, p.reader.failure(0));
        Probe.due("the message stays", 23, p.reader.message(2, 0));
        tooLong();
    }

    private static void tooLong() {
        Probe p = with("plan;record a x list int;plan;record a x list real;", 2);
        p.writeDue(0, 0, "{x [" + "1,".repeat(48) + "1]}", 51 - 1);
        p.writeDue(1, 0, "{x [" + "1,".repeat(49) + "1]}", 51);
        p.writeDue(2, 0, "{x [4]}", 2);
        Probe.due("as much as there may be", 393, p.reader.convert(0, 1, 3));
        Probe.due("more than 400", -4, p.reader.convert(1, 1, 2));
        Probe.due("the message stays", 2, p.reader.message(2, 0));
        Probe.due("nodes are as read() would have them", 52, p.reader.count(2));
        Probe.due("that is no failure", NONE, p.reader.failure(0));
    }

    private static void alike() {
        Probe p = with("plan;record a x int,y int;plan;record a y long else 5,x real;plan;record a x either text or real,y real else 5,z int else 0;"
                + "plan;record a z text;", 4);
        p.writeDue(0, 0, "{x 3,y 5}", 2);
        p.writeDue(1, 1, "{x 3}", 9);
        p.writeDue(2, 0, "{x 3,y 6}", 2);
        Probe.due("like nodes", 1, p.reader.alike(0, 1, 1));
        Probe.due("an int is no real", -2, p.reader.alike(0, 1, 0));
        Probe.due("other values", 0, p.reader.alike(2, 1, 1));
        Probe.due("with itself", 1, p.reader.alike(2, 2, 2));
        Probe.due("filled in or not", 1, p.reader.alike(0, 1, 2));
        Probe.due("no match", -2, p.reader.alike(0, 1, 3));
        Probe.due("nothing was used", 0, p.reader.count(4));
        Probe.due("read", 3, p.reader.read(0, 0));
        p.reader.cut(0, 1);
        Probe.due("the first one cannot be read", -3, p.reader.alike(0, 1, 1));
        Probe.due("the second one cannot be read", -3, p.reader.alike(1, 0, 1));
        Probe.due("the first one first", -3, p.reader.alike(0, 1, 0));
        Probe.due("the first one first", -2, p.reader.alike(1, 0, 0));
        Probe.due("nodes stay", 3, p.reader.count(2));
        Probe.due("their values stay", 5, p.reader.value(2));
        Probe.due("one pair was used", 1, p.reader.count(3) + p.reader.count(4));
        int[][] none = {{3, 0, 0}, {0, 3, 0}, {-1, 0, 0}, {0, 4, 0}, {0, 1, 4}, {0, 1, -1}};
        for (int[] a : none) {
            Probe.due("others", NONE, p.reader.alike(a[0], a[1], a[2]));
        }
        Probe q = with("plan;record a x list text,y real;", 1);
        q.writeDue(0, 0, "{x [\"ab\"],y 0.0}", 12);
        q.writeDue(1, 0, "{x [\"ac\"],y 0.0}", 12);
        q.writeDue(2, 0, "{x [\"ab\"],y -0.0}", 12);
        q.writeDue(3, 0, "{x [\"a\",\"b\"],y 0.0}", 13);
        Probe.due("other letters", 0, q.reader.alike(0, 1, 0));
        Probe.due("other bits", 0, q.reader.alike(0, 2, 0));
        Probe.due("other lists", 0, q.reader.alike(0, 3, 0));
    }

    private static void kept() {
        Probe p = with("plan;record a x int;".repeat(5) + "plan;record a x text;", 6);
        p.writeDue(0, 2, "{x 1}", 1);
        p.writeDue(1, 1, "{x 1}", 1);
        p.reader.read(0, 0);
        p.reader.read(0, 5);
        p.reader.convert(1, 4, 3);
        p.keptDue(14, 25, 20);
        p.reader.read(0, 0);
        p.keptDue(20, 14, 25);
        p.reader.read(1, 1);
        p.keptDue(11, 20, 14, 25);
        p.reader.read(0, 3);
        p.keptDue(23, 11, 20, 14);
        p.reader.cut(0, 0);
        p.reader.read(0, 5);
        p.keptDue(25, 23, 11, 20);
        Probe.due("convert", -3, p.reader.convert(0, 2, 0));
        p.keptDue(22, 25, 23, 11);
        p.reader.read(0, 6);
        p.reader.read(2, 0);
        p.reader.alike(1, 3, 0);
        p.reader.matches(0, 1);
        p.keptDue(22, 25, 23, 11);
        p.reader.read(0, 2);
        p.keptDue(22, 25, 23, 11);
        Probe.due("found", 2, p.reader.count(3));
        Probe.due("not found", 7, p.reader.count(4));
        Probe.due("others", NONE, p.reader.kept(-2));
        p.plansFault("plan;@", 1);
        p.keptDue(22, 25, 23, 11);
        p.plansDue("plan;record a x int;", 1);
        p.keptDue();
    }

    private static void count() {
        Probe p = with("plan;record a x int;plan;record b y text;", 2);
        p.writeDue(1, 0, "{x 1}", 1);
        p.writeDue(3, 1, "{y \"\"}", 1);
        p.reader.read(1, 0);
        p.reader.read(1, 0);
        p.reader.read(1, 1);
        p.reader.read(3, 1);
        p.feed("plan");
        int[] want = {2, 10, 2, 1, 3, 20};
        for (int what = 0; what < want.length; what++) {
            Probe.due("count " + what, want[what], p.reader.count(what));
        }
        Probe.due("another what", NONE, p.reader.count(6));
        Probe.due("another what", NONE, p.reader.count(-1));
    }
}
