/** Promise 1, a new object: no plans, no messages, an empty tape, and so nothing of all the rest. */
public final class Promise01NewObjectTest extends Edge {
    public static void main(String[] args) {
        run(Promise01NewObjectTest.class);
    }

    static void hasNoPlans() {
        ShapeReader r = new ShapeReader();
        due("count(0)", 0, r.count(0));
        due("record(0, NONE, 0)", NONE, r.record(0, NONE, 0));
        due("record(0, 0, 0)", NONE, r.record(0, 0, 0));
        due("field(0, 0, 0, 0)", NONE, r.field(0, 0, 0, 0));
    }

    static void hasNoPairsOfPlans() {
        ShapeReader r = new ShapeReader();
        due("matches(0, 0)", NONE, r.matches(0, 0));
        due("miss(0, 0, NONE, 0)", NONE, r.miss(0, 0, NONE, 0));
        due("miss(0, 0, 0, 0)", NONE, r.miss(0, 0, 0, 0));
        due("missStep(0, 0, 0, 0)", NONE, r.missStep(0, 0, 0, 0));
        due("readers(0, 0)", NONE, r.readers(0, 0));
        due("readers(0, 1)", NONE, r.readers(0, 1));
    }

    static void hasNoMessages() {
        ShapeReader r = new ShapeReader();
        due("count(1)", 0, r.count(1));
        for (int message = 0; message < 4; message++) {
            int m = message;
            due("message(" + m + ", 0)", NONE, r.message(m, 0));
            due("message(" + m + ", 1)", NONE, r.message(m, 1));
            throwsDue("byteAt(" + m + ", 0)", () -> r.byteAt(m, 0));
            due("spoil(" + m + ", 0, 1)", NONE, r.spoil(m, 0, 1));
            due("cut(" + m + ", 0)", NONE, r.cut(m, 0));
            due("read(" + m + ", 0)", NONE, r.read(m, 0));
            due("convert(" + m + ", 0, 0)", NONE, r.convert(m, 0, 0));
            due("alike(" + m + ", " + m + ", 0)", NONE, r.alike(m, m, 0));
        }
    }

    static void hasAnEmptyTape() {
        ShapeReader r = new ShapeReader();
        due("count(5)", 0, r.count(5));
        due("plans(1)", NONE, r.plans(1));
        due("plans(0)", Probe.fault(0, 1), r.plans(0));
    }

    static void hasNoPlanToWriteBy() {
        ShapeReader r = new ShapeReader();
        due("write(0, 0, 0)", NONE, r.write(0, 0, 0));
        due("write(0, NONE, 0)", NONE, r.write(0, NONE, 0));
    }

    static void hasNoNodes() {
        ShapeReader r = new ShapeReader();
        due("count(2)", 0, r.count(2));
        for (int what = 0; what <= 4; what++) {
            int w = what;
            throwsDue("node(0, " + w + ")", () -> r.node(0, w));
        }
        throwsDue("value(0)", () -> r.value(0));
        throwsDue("letter(0, 0)", () -> r.letter(0, 0));
    }

    static void keepsNothing() {
        ShapeReader r = new ShapeReader();
        due("kept(NONE)", 0, r.kept(NONE));
        due("kept(0)", NONE, r.kept(0));
        due("count(3)", 0, r.count(3));
        due("count(4)", 0, r.count(4));
    }

    static void hasNoFailure() {
        ShapeReader r = new ShapeReader();
        due("failure(0)", NONE, r.failure(0));
        due("failure(1)", NONE, r.failure(1));
        due("failure(2)", NONE, r.failure(2));
        due("failureStep(0)", NONE, r.failureStep(0));
    }

    static void hasNothingOfAnotherObject() {
        ShapeReader used = Watch.nodes();
        ShapeReader r = new ShapeReader();
        for (int what = 0; what <= 5; what++) {
            due("count(" + what + ")", 0, r.count(what));
        }
        due("the used one's plans", 3, used.count(0));
        due("the used one's nodes", 4, used.count(2));
    }
}
