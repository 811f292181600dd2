/** Promise 14, readers: as a whole, as a whole or partly, as bits; what is refused. */
public final class Promise14ReadersTest extends Edge {
    private static final String PLANS = "plan;record a x either int or text;plan;record a x int;plan;record a x either long or text;"
            + "plan;record a y flag;plan;record a z int else 1;";

    public static void main(String[] args) {
        run(Promise14ReadersTest.class);
    }

    static void asAWhole() {
        Probe p = with(PLANS);
        due("of an either", 1 + 4 + 16, p.reader.readers(0, 0));
        due("of an int", 1 + 2 + 4 + 16, p.reader.readers(1, 0));
        due("of a long", 4 + 16, p.reader.readers(2, 0));
        due("of a flag", 8 + 16, p.reader.readers(3, 0));
        due("of an else", 16, p.reader.readers(4, 0));
    }

    static void asAWholeOrPartly() {
        Probe p = with(PLANS);
        due("of an either", 1 + 2 + 4 + 16, p.reader.readers(0, 1));
        due("of an int", 1 + 2 + 4 + 16, p.reader.readers(1, 1));
        due("of a long", 1 + 4 + 16, p.reader.readers(2, 1));
        due("of a flag", 8 + 16, p.reader.readers(3, 1));
    }

    static void onePlan() {
        Probe p = with("plan;record a x int;");
        due("as a whole", 1, p.reader.readers(0, 0));
        due("or partly", 1, p.reader.readers(0, 1));
    }

    static void allOfSixPlans() {
        Probe p = with("plan;record a x int;".repeat(6));
        for (int plan = 0; plan < 6; plan++) {
            due("as a whole", 63, p.reader.readers(plan, 0));
            due("or partly", 63, p.reader.readers(plan, 1));
        }
    }

    static void itselfAloneOfSixPlans() {
        Probe p = with("plan;record a x int;plan;record a x text;plan;record a x flag;plan;record a x none;"
                + "plan;record a x list int;plan;record a x a;");
        for (int plan = 0; plan < 6; plan++) {
            due("as a whole", 1 << plan, p.reader.readers(plan, 0));
            due("or partly", 1 << plan, p.reader.readers(plan, 1));
        }
    }

    static void noSuchPlan() {
        Probe p = with(PLANS);
        for (int plan : outside(0, 4)) {
            due("readers(" + plan + ", 0)", NONE, p.reader.readers(plan, 0));
            due("readers(" + plan + ", 1)", NONE, p.reader.readers(plan, 1));
        }
    }

    static void noSuchWhat() {
        Probe p = with(PLANS);
        for (int what : outside(0, 1)) {
            due("readers(0, " + what + ")", NONE, p.reader.readers(0, what));
        }
    }

    static void asMatchesTells() {
        Probe p = with(PLANS);
        for (int writer = 0; writer < 5; writer++) {
            int whole = 0;
            int partly = 0;
            for (int reader = 0; reader < 5; reader++) {
                int verdict = p.reader.matches(writer, reader);
                whole |= verdict == 0 ? 1 << reader : 0;
                partly |= verdict <= 1 ? 1 << reader : 0;
            }
            due("readers(" + writer + ", 0)", whole, p.reader.readers(writer, 0));
            due("readers(" + writer + ", 1)", partly, p.reader.readers(writer, 1));
        }
    }

    static void nothingChanges() {
        Watch.unchanged("readers(0, 0)", Watch::nodes, r -> r.readers(0, 0), 3);
        Watch.unchanged("readers(0, 2)", Watch::failed, r -> r.readers(0, 2), NONE);
    }
}
