/** Promise 4, the faults of a value's text: form, fit, names, what is left out, how deep and how many. */
public final class Promise04FaultsTest extends Edge {
    private static final String PLAN = "plan;record a x int,y list int else [],z either b or text was old;"
            + "record b p flag,q int else 1;";
    private static final String[] TYPES = {"none", "flag", "int", "long", "real", "text", "list int", "b"};
    private static final String[] VALUES = {"none", "yes", "5", "3000000000", "1.5", "\"a\"", "[]", "{}"};

    public static void main(String[] args) {
        run(Promise04FaultsTest.class);
    }

    private static void fault(String marked, int kind) {
        with(PLAN).writeFault(0, 0, marked, kind);
    }

    static void formAtTheEndOfEachPart() {
        String[] parts = {"", "{", "{x", "{x 1", "{x 1,", "{x 1,y [", "{x 1,y [1", "{x 1,y [1,", "{x 1,y []", "{x 1,z {",
            "{x 1,z {p", "{x 1,z {p yes", "{x 1,z {p yes}"};
        for (String part : parts) {
            fault(part + "@", 1);
            fault(part + " \n @", 1);
        }
    }

    static void formAtATokenThatDoesNotGoOn() {
        fault("@}", 1);
        fault("@]", 1);
        fault("@,", 1);
        fault("@;", 1);
        fault("@x 1", 1);
        fault("{@,x 1}", 1);
        fault("{@{", 1);
        fault("{@\"x\" 1}", 1);
        fault("{x@}", 1);
        fault("{x@,y []}", 1);
        fault("{x @x}", 1);
        fault("{x 1@]", 1);
        fault("{x 1@;", 1);
        fault("{x 1 @1}", 1);
        fault("{x 1,@,", 1);
        fault("{x 1,@}", 1);
        fault("{x 1,y [@,", 1);
        fault("{x 1,y [1@}", 1);
        fault("{x 1,y [1,@]}", 1);
        fault("{x 1,y [1 @1]}", 1);
        fault("{x 1,z \"\"}@}", 1);
        fault("{x 1,z \"\"}@{}", 1);
        fault("{x 1,z \"\"} @;", 1);
    }

    static void wordsThatAreNoNamesAndNoValues() {
        String[] words = {"plan", "record", "was", "else", "list", "either", "or", "flag", "int", "long", "real", "text"};
        for (String word : words) {
            fault("{x @" + word + "}", 1);
            fault("{@" + word + " 1}", 1);
        }
        fault("{@none 1}", 1);
        fault("{@yes 1}", 1);
        fault("{@no 1}", 1);
    }

    static void bytesThatBeginNoToken() {
        fault("@%", 1);
        fault("{x @%}", 1);
        fault("{x @1000000000000000000}", 1);
        fault("{@abcdefghi 1}", 1);
        fault("{x 1,z @\"abcdefghijklm\"}", 1);
        fault("{x 1,z @\"a}", 1);
    }

    private static boolean isFitting(int type, int value) {
        return value == type || value == 2 && (type == 3 || type == 4) || value == 3 && type == 4;
    }

    static void eachKindOfValueForEachType() {
        for (int type = 0; type < TYPES.length; type++) {
            for (int value = 0; value < VALUES.length; value++) {
                Probe p = with("plan;record a x " + TYPES[type] + ";record b y int else 1;");
                if (isFitting(type, value)) {
                    due("write", 1, p.write(0, 0, "{x " + VALUES[value] + "}") >= 0 ? 1 : 0);
                } else {
                    p.writeFault(0, 0, "{x @" + VALUES[value] + "}", 2);
                }
            }
        }
    }

    static void eachKindOfValueForAnEitherThatLacksIt() {
        for (int value = 0; value < VALUES.length; value++) {
            String other = value == 5 ? "none or list int" : "text";
            String last = value == 0 || value == 1 ? "b" : "flag";
            Probe p = with("plan;record a x either " + last + " or " + other + ";record b y int else 1;");
            boolean fits = value == 1 && last.equals("flag") || value == 5 && other.equals("text");
            if (!fits) {
                p.writeFault(0, 0, "{x @" + VALUES[value] + "}", 2);
            }
        }
    }

    static void theFirstTokenAloneTellsTheBranch() {
        Probe p = with("plan;record a x either text or list int or b;record b y flag;");
        p.writeFault(0, 0, "{x [@\"a\"]}", 2);
        p.writeFault(0, 0, "{x [1,@[2]]}", 2);
        p.writeFault(0, 0, "{x {y @1}}", 2);
        p.writeFault(0, 0, "{x {@z yes}}", 3);
        p.writeFault(0, 0, "{x {@}}", 6);
        p.writeFault(0, 0, "{x [@}}", 1);
    }

    static void theRootIsARecord() {
        String[] wrong = {"none", "yes", "1", "1.5", "\"a\"", "[]", "[", "[{x 1}]"};
        for (String value : wrong) {
            fault("@" + value, 2);
        }
    }

    static void aValueThatDoesNotFitIsToldAtItsFirstToken() {
        fault("{x @[1,2]}", 2);
        fault("{x @{p yes}}", 2);
        fault("{x @[ %", 2);
        fault("{x 1,y @{x 1}}", 2);
        fault("{x 1,y [1,2,@\"a\"]}", 2);
        fault("{x 1,z @[]}", 2);
    }

    static void aNameThatTheRecordHasNot() {
        fault("{@w 1}", 3);
        fault("{x 1,@p yes}", 3);
        fault("{x 1,z {@x 1}}", 3);
        fault("{@xx 1}", 3);
        fault("{@w", 3);
    }

    static void whatAFieldWasCalledIsNoNameOfIt() {
        fault("{x 1,@old \"a\"}", 3);
    }

    static void aRecordsNameIsNoFieldOfIt() {
        fault("{@a 1}", 3);
        fault("{@b 1}", 3);
    }

    static void aNameToldTwice() {
        fault("{x 1,@x 1}", 3);
        fault("{x 1,z \"\",@x yes}", 3);
        fault("{x 1,z {p yes,@p yes}}", 3);
        with(PLAN).writeDue(0, 0, "{x 1,z {p yes,q 2}}", 5);
    }

    static void aNameToldTwiceWhoseFieldHasAnElse() {
        Probe p = with("plan;record a x int else 5,y b;record b z text else \"q\";");
        p.writeFault(0, 0, "{x 1,@x 1}", 3);
        p.writeFault(0, 0, "{x 1,y {z \"\",@z \"\"}}", 3);
        p.writeFault(0, 0, "{x 1,y {},@x 2}", 3);
    }

    static void allEightFieldsAndThenOneMore() {
        StringBuilder plan = new StringBuilder("plan;record r ");
        StringBuilder value = new StringBuilder("{");
        for (int k = 0; k < 8; k++) {
            plan.append(k == 0 ? "" : ",").append(letter(k)).append(" flag");
            value.append(k == 0 ? "" : ",").append(letter(7 - k)).append(" no");
        }
        Probe p = with(plan + ";");
        p.writeDue(0, 0, value + "}", 8);
        p.writeFault(0, 0, value + ",@a no}", 3);
        p.writeFault(0, 0, value + ",@h no}", 3);
        p.writeFault(0, 0, value + ",@i no}", 3);
        p.writeFault(0, 0, value + ",@}", 1);
    }

    static void aFieldLeftOutThatHasNoElse() {
        fault("{@}", 6);
        fault("{x 1@}", 6);
        fault("{z \"\" \n @}", 6);
        fault("{y [],z \"\"@}", 6);
        fault("{x 1,z {@}}", 6);
        fault("{x 1,z {q 3@}}", 6);
        with(PLAN).writeDue(0, 0, "{x 1,z {p no}}", 5);
    }

    static void eachOfEightFieldsLeftOut() {
        StringBuilder plan = new StringBuilder("plan;record r ");
        for (int k = 0; k < 8; k++) {
            plan.append(k == 0 ? "" : ",").append(letter(k)).append(" flag");
        }
        Probe p = with(plan + ";");
        for (int out = 0; out < 8; out++) {
            StringBuilder value = new StringBuilder();
            for (int k = 0; k < 8; k++) {
                value.append(k == out ? "" : "," + letter(k) + " no");
            }
            p.writeFault(0, 0, "{" + value.substring(1) + "@}", 6);
        }
    }

    static void anEmptyRecordWhoseFieldsAllHaveAnElse() {
        Probe p = with("plan;record a x int else 1,y flag else no;");
        p.writeDue(0, 0, "{}", 2);
        p.writeDue(0, 0, "{ \n }", 2);
    }

    static void aListOfTwoHundred() {
        Probe p = with("plan;record a x list int;");
        p.writeDue(0, 0, "{x [" + joined("1", 199) + "]}", 201);
        p.writeDue(0, 0, "{x [" + joined("1", 200) + "]}", 202);
    }

    static void theTwoHundredAndFirstOfAList() {
        Probe p = with("plan;record a x list int,y list list none else [];");
        p.writeFault(0, 0, "{x [" + joined("1", 200) + ",@1]}", 4);
        p.writeFault(0, 0, "{x [" + joined("1", 200) + ", @1", 4);
        p.writeFault(0, 0, "{x [],y [" + joined("[]", 200) + ",@[]]}", 4);
    }

    static void theTwoHundredAndFirstThatDoesNotFitOrIsNone() {
        Probe p = with("plan;record a x list int;");
        p.writeFault(0, 0, "{x [" + joined("1", 200) + ",@yes]}", 2);
        p.writeFault(0, 0, "{x [" + joined("1", 200) + ",@]}", 1);
        p.writeFault(0, 0, "{x [" + joined("1", 200) + "@;", 1);
    }

    static void twoListsOfTwoHundred() {
        Probe p = with("plan;record a x list int,y list int;");
        p.writeFault(0, 0, "{y [" + joined("1", 200) + "],x [" + joined("1", 200) + "]}@", 7);
        p.writeDue(0, 0, "{y [" + joined("1", 200) + "],x [" + joined("1", 196) + "]}", 400);
    }

    /** Values of two bytes each up to the tape's end: nothing but their bytes is too many. */
    static void asManyValuesAsTheTapeTakes() {
        Probe p = with("plan;record a x list int,y list int,z list int;");
        String text = "{x[" + joined("1", 200) + "],y[" + joined("1", 200) + "],z[" + joined("1", 95);
        due("its bytes on the tape", 1000, text.length() + 2);
        p.writeFault(0, 0, text + "]}@", 7);
        p.writeFault(0, 0, text + "]@]", 1);
        p.writeFault(0, 0, text + "@}}", 1);
    }

    /** The root within none, a record within 30 others, its field within 31. */
    static void aRecordsFieldWithinThirtyAndThirtyOneOthers() {
        Probe p = with("plan;record n v int else 0,next either none or n else none;");
        String ring = "{next ";
        p.writeDue(0, 0, ring.repeat(29) + "{v 1}" + "}".repeat(29), 60);
        p.writeDue(0, 0, ring.repeat(30) + "{}" + "}".repeat(30), 62);
        p.writeFault(0, 0, ring.repeat(30) + "{v @1}" + "}".repeat(30), 4);
        p.writeFault(0, 0, ring.repeat(30) + "{next @none}" + "}".repeat(30), 4);
        p.writeFault(0, 0, ring.repeat(31) + "@{}" + "}".repeat(31), 4);
    }

    static void aListsItemWithinThirtyAndThirtyOneOthers() {
        Probe p = with("plan;record n k list n else [],m list list list int else [];");
        String ring = "{k [";
        p.writeDue(0, 0, ring.repeat(15) + "{}" + "]}".repeat(15), 15 * 2 + 2);
        p.writeFault(0, 0, ring.repeat(15) + "{k @[]}" + "]}".repeat(15), 4);
        p.writeDue(0, 0, ring.repeat(14) + "{k []}" + "]}".repeat(14), 14 * 2 + 2);
        p.writeDue(0, 0, ring.repeat(13) + "{m [[[1]]]}" + "]}".repeat(13), 13 * 2 + 1 + 4);
        p.writeDue(0, 0, ring.repeat(14) + "{m [[]]}" + "]}".repeat(14), 14 * 2 + 1 + 2);
        p.writeFault(0, 0, ring.repeat(14) + "{m [[@[]]]}" + "]}".repeat(14), 4);
    }

    static void tooDeepAValueThatDoesNotFitOrIsNone() {
        Probe p = with("plan;record n v int else 0,next either none or n else none;");
        String ring = "{next ";
        p.writeFault(0, 0, ring.repeat(30) + "{v @yes}" + "}".repeat(30), 2);
        p.writeFault(0, 0, ring.repeat(30) + "{v @x}" + "}".repeat(30), 1);
        p.writeFault(0, 0, ring.repeat(30) + "{@w 1}" + "}".repeat(30), 3);
    }

    static void behindAFaultTheRestMayBeWell() {
        fault("{x 1,y [@,z \"\"}", 1);
        fault("{z \"\",x 1,y [@}", 1);
        fault("{z \"\",x 1,y [1,@}", 1);
        fault("{z \"\",y [],x @}", 1);
        fault("{z \"\",x @,y []}", 1);
        fault("{x 1,z {p @},y []}", 1);
        fault("{x 1,z {@},y []}", 6);
        fault("{x 1,z {q 1@},y []}", 6);
        fault("{x @none,z \"\"}", 2);
        fault("{x 1,@w 1,z \"\"}", 3);
    }

    static void theFirstFromTheLeft() {
        fault("{x @yes,x 1,w 1", 2);
        fault("{x 1,@w 1,x 1", 3);
        fault("{x 1,z {q 1@},x 1}", 6);
        fault("{x 1,y [@[,z 5", 2);
        fault("{x 1 @y [yes],z 5", 1);
    }
}
