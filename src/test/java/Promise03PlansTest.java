/** Promise 3, plans: which n is taken, what is gone behind it, what stays behind a fault or a refusal. */
public final class Promise03PlansTest extends Edge {
    private static final String ONE = "plan;record a x int;";

    public static void main(String[] args) {
        run(Promise03PlansTest.class);
    }

    static void noBytesOfAnEmptyTapeAreAFormFault() {
        due("plans(0)", Probe.fault(0, 1), new ShapeReader().plans(0));
    }

    static void noBytesOfAFedTapeEmptyIt() {
        Probe p = new Probe();
        p.feed(ONE);
        due("plans(0)", Probe.fault(0, 1), p.reader.plans(0));
        due("count(5)", 0, p.reader.count(5));
    }

    static void allBytesOfTheTapeAreTaken() {
        Probe p = new Probe();
        p.feed(ONE);
        due("plans(20)", 1, p.reader.plans(20));
        due("count(5)", 0, p.reader.count(5));
    }

    static void oneByteMoreThanTheTapeHasIsRefused() {
        Probe p = new Probe();
        p.feed(ONE);
        due("plans(21)", NONE, p.reader.plans(21));
        due("count(5)", 20, p.reader.count(5));
        due("plans(20)", 1, p.reader.plans(20));
    }

    static void oneByteOfAnEmptyTapeIsRefused() {
        due("plans(1)", NONE, new ShapeReader().plans(1));
    }

    static void oneByteMoreThanAFullTapeIsRefused() {
        Probe p = new Probe();
        p.feed(ONE + " ".repeat(980));
        due("plans(1001)", NONE, p.reader.plans(1001));
        due("count(5)", 1000, p.reader.count(5));
        due("plans(1000)", 1, p.reader.plans(1000));
    }

    static void belowNoneIsRefused() {
        int[] numbers = {-1, -2, -20, MIN};
        for (int n : numbers) {
            Watch.unchanged("plans(" + n + ")", Watch::nodes, r -> r.plans(n), NONE);
            Watch.unchanged("plans(" + n + ")", Watch::failed, r -> r.plans(n), NONE);
        }
    }

    static void moreThanTheTapeHasChangesNothing() {
        int[] numbers = {21, 1000, 1001, MAX};
        for (int n : numbers) {
            Watch.unchanged("plans(" + n + ")", Watch::nodes, r -> r.plans(n), NONE);
            Watch.unchanged("plans(" + n + ")", Watch::failed, r -> r.plans(n), NONE);
        }
    }

    static void theFirstBytesAloneAreTheText() {
        Probe p = new Probe();
        p.feed(ONE + "%%%% no text at all");
        due("plans(20)", 1, p.reader.plans(20));
        due("what is behind is gone, too", 0, p.reader.count(5));
    }

    static void aWordEndsWhereTheTextEnds() {
        Probe p = new Probe();
        p.feed("plan;record a x int;");
        due("plans(18)", Probe.fault(18, 1), p.reader.plans(18));
        p.feed("plan;record a x int;");
        due("plans(19)", Probe.fault(19, 1), p.reader.plans(19));
        p.feed("planx;");
        due("plans(4)", Probe.fault(4, 1), p.reader.plans(4));
    }

    static void aTextOfAThousandBytesIsTaken() {
        Probe p = new Probe();
        p.feed("plan;record a x int" + " ".repeat(980) + ";");
        due("plans(1000)", 1, p.reader.plans(1000));
    }

    static void aFaultAtTheLastByteOfAFullTape() {
        Probe p = new Probe();
        p.feed("plan;record a x int;" + " ".repeat(979) + "%");
        due("plans(1000)", Probe.fault(999, 1), p.reader.plans(1000));
    }

    static void aFaultAtTheEndOfAFullTape() {
        Probe p = new Probe();
        p.feed("plan;record a x int" + " ".repeat(981));
        due("plans(1000)", Probe.fault(1000, 1), p.reader.plans(1000));
    }

    static void oneToSixPlansAreCounted() {
        for (int many = 1; many <= 6; many++) {
            Probe p = new Probe();
            p.plansDue(ONE.repeat(many), many);
            due("count(0)", many, p.reader.count(0));
        }
    }

    static void aSeventhPlanIsAFault() {
        Probe p = new Probe();
        p.plansFault(ONE.repeat(6) + "@plan;record a x int;", 4);
        p.plansFault(ONE.repeat(6) + "  @plan", 4);
        due("count(0)", 0, p.reader.count(0));
    }

    static void messagesAreGone() {
        Probe p = with(ONE);
        for (int message = 0; message < 4; message++) {
            p.writeDue(message, 0, "{x 1}", 1);
        }
        p.plansDue(ONE, 1);
        due("count(1)", 0, p.reader.count(1));
        for (int message = 0; message < 4; message++) {
            due("message " + message, NONE, p.reader.message(message, 0));
            due("read " + message, NONE, p.reader.read(message, 0));
        }
    }

    static void nodesAreGone() {
        Probe p = with(ONE);
        p.writeDue(0, 0, "{x 1}", 1);
        due("read", 2, p.reader.read(0, 0));
        p.plansDue(ONE, 1);
        due("count(2)", 0, p.reader.count(2));
        throwsDue("node(0, 0)", () -> p.reader.node(0, 0));
        throwsDue("value(1)", () -> p.reader.value(1));
    }

    static void whatIsKeptIsGone() {
        Probe p = with(ONE);
        p.writeDue(0, 0, "{x 1}", 1);
        due("read", 2, p.reader.read(0, 0));
        p.plansDue(ONE, 1);
        p.keptDue();
    }

    static void pairsAreCountedAnew() {
        Probe p = with(ONE);
        p.writeDue(0, 0, "{x 1}", 1);
        p.reader.read(0, 0);
        p.reader.read(0, 0);
        due("found", 1, p.reader.count(3));
        due("not found", 1, p.reader.count(4));
        p.plansDue(ONE, 1);
        due("found", 0, p.reader.count(3));
        due("not found", 0, p.reader.count(4));
        p.writeDue(0, 0, "{x 1}", 1);
        p.reader.read(0, 0);
        due("the pair was not kept", 1, p.reader.count(4));
    }

    static void theOldPlansAreGone() {
        Probe p = with("plan;record longname x int,y int;record b z int;plan;record c x int;");
        due("matches(0, 1)", 0, p.reader.matches(0, 1));
        p.plansDue("plan;record a x text;", 1);
        due("count(0)", 1, p.reader.count(0));
        due("records", 1, p.reader.record(0, NONE, 0));
        due("fields", 1, p.reader.record(0, 0, 0));
        due("letters", 1, p.reader.record(0, 0, 1));
        due("no second record", NONE, p.reader.record(0, 1, 0));
        due("no second plan", NONE, p.reader.record(1, NONE, 0));
        due("no second field", NONE, p.reader.field(0, 0, 1, 0));
        due("a text", 5, p.reader.field(0, 0, 0, 0));
        due("matches(0, 1)", NONE, p.reader.matches(0, 1));
    }

    static void recordsAndFieldsOfTheOldPlansAreGone() {
        Probe p = with("plan;record a x int;record b y int,z int;plan;record c u int,v int;record d w int;");
        p.plansDue("plan;record a x int;", 1);
        for (int what = 0; what <= 5; what++) {
            due("a field of an old record", NONE, p.reader.field(0, 1, 0, what));
            due("a field of an old plan", NONE, p.reader.field(1, 0, 0, what));
        }
        due("an old record", NONE, p.reader.record(0, 1, 1));
        due("a record of an old plan", NONE, p.reader.record(1, 0, 0));
    }

    static void whatFieldsWereAndWhatElseToldIsGone() {
        Probe p = with("plan;record a x int was q else 7,y text was r else \"ab\";");
        p.plansDue("plan;record a x int,y text;plan;record a x int,q int,r int;", 2);
        for (int field = 0; field < 2; field++) {
            due("else", 0, p.reader.field(0, 0, field, 1));
            due("was", 0, p.reader.field(0, 0, field, 2));
        }
        p.writeFault(0, 0, "{@}", 6);
        due("matches", 2, p.reader.matches(1, 0));
        p.missDue(1, 0, 0, 1, 1);
    }

    static void whatAFaultyTextToldIsGone() {
        Probe p = new Probe();
        p.plansFault("plan;record a x int was q else 7,y list list b was r else [];@%", 1);
        p.plansDue("plan;record a x int,y int;", 1);
        for (int field = 0; field < 2; field++) {
            due("sort", 2, p.reader.field(0, 0, field, 0));
            due("else", 0, p.reader.field(0, 0, field, 1));
            due("was", 0, p.reader.field(0, 0, field, 2));
        }
    }

    static void recordsThatTheOldPlansAskedForAreGone() {
        Probe p = with("plan;record a x b,y list b,z either int or b;record b y int;");
        p.plansDue("plan;record a x int,y list int,z either int or text;", 1);
        for (int field = 0; field < 3; field++) {
            due("record of field " + field, NONE, p.reader.field(0, 0, field, 5));
        }
        due("branches", 2, p.reader.field(0, 0, 2, 4));
    }

    static void whatMatchedOnceIsLookedAtAnew() {
        Probe p = with("plan;record a x int;plan;record a x int;");
        due("matches", 0, p.reader.matches(0, 1));
        due("misses", 0, p.reader.miss(0, 1, NONE, 0));
        p.plansDue("plan;record a x int;plan;record a x text;", 2);
        due("matches", 2, p.reader.matches(0, 1));
        due("misses", 1, p.reader.miss(0, 1, NONE, 0));
        due("readers", 1, p.reader.readers(0, 1));
        p.plansDue("plan;record a x int;plan;record a x real;", 2);
        due("misses", 0, p.reader.miss(0, 1, NONE, 0));
        due("matches", 0, p.reader.matches(0, 1));
        due("readers", 3, p.reader.readers(0, 0));
    }

    static void behindAFaultAllElseStays() {
        Watch.unchangedBut("plans(19)", Watch::nodes, r -> r.plans(19), Probe.fault(19, 1), "count(5)", "plans()");
        Watch.unchangedBut("plans(19)", Watch::failed, r -> r.plans(19), Probe.fault(19, 1), "count(5)", "plans()");
    }

    /** Six plans of six records stand in the text ahead of its fault. */
    static void behindALateFaultAllElseStays() {
        StringBuilder text = new StringBuilder();
        for (int plan = 0; plan < 6; plan++) {
            text.append("plan;");
            for (int record = 0; record < 6; record++) {
                text.append("record ").append(letter(record + plan)).append(" q text;");
            }
        }
        text.append('%');
        Watch.unchangedBut("a late fault", Watch::nodes, r -> {
            r.plans(0);
            Probe.feed(r, text.toString());
            return r.plans(text.length());
        }, Probe.fault(text.length() - 1, 1), "count(5)", "plans()");
    }

    static void behindAFaultTheTapeIsEmpty() {
        Probe p = new Probe();
        p.feed(ONE + ONE);
        due("plans(19)", Probe.fault(19, 1), p.reader.plans(19));
        due("count(5)", 0, p.reader.count(5));
        due("plans(1)", NONE, p.reader.plans(1));
    }

    static void aNewObjectHasNoPlansBehindAFault() {
        Probe p = new Probe();
        p.plansFault("plan;record a x int;plan;record b y int else @yes;", 2);
        due("count(0)", 0, p.reader.count(0));
        due("record(0, NONE, 0)", NONE, p.reader.record(0, NONE, 0));
    }
}
