/** Promise 3, the faults: form, literals, names, branches; each at its place, and which goes ahead of which. */
public final class Promise03FaultsTest extends Edge {
    private static final String[] SORTS = {"none", "flag", "int", "long", "real", "text", "list int", "a"};

    public static void main(String[] args) {
        run(Promise03FaultsTest.class);
    }

    private static void taken(String text, int plans) {
        new Probe().plansDue(text, plans);
    }

    private static void fault(String marked, int kind) {
        new Probe().plansFault(marked, kind);
    }

    private static void elseTaken(String type, String literal) {
        taken("plan;record a x " + type + " else " + literal + ";", 1);
    }

    private static void elseFault(String type, String literal) {
        fault("plan;record a x " + type + " else @" + literal + ";", 2);
    }

    static void formAtTheEndOfEachPart() {
        String[] parts = {"", "plan", "plan;", "plan;record", "plan;record a", "plan;record a x", "plan;record a x list",
            "plan;record a x either", "plan;record a x either int", "plan;record a x either int or",
            "plan;record a x int", "plan;record a x int was", "plan;record a x int was y",
            "plan;record a x int was y else", "plan;record a x int was y else 5", "plan;record a x list int else [",
            "plan;record a x list int else []", "plan;record a x int,", "plan;record a x int;plan",
            "plan;record a x int;record"};
        for (String part : parts) {
            fault(part + "@", 1);
            fault(part + "  \n @", 1);
        }
    }

    static void formAtATokenThatDoesNotGoOn() {
        fault("@;", 1);
        fault("@record a x int;", 1);
        fault("@5", 1);
        fault("plan @record a x int;", 1);
        fault("plan;@a x int;", 1);
        fault("plan;@;", 1);
        fault("plan;record @;", 1);
        fault("plan;record @5 x int;", 1);
        fault("plan;record a @, x int;", 1);
        fault("plan;record a x @;", 1);
        fault("plan;record a x @5;", 1);
        fault("plan;record a x @[];", 1);
        fault("plan;record a x @{};", 1);
        fault("plan;record a x int @y int;", 1);
        fault("plan;record a x int @int;", 1);
        fault("plan;record a x int @or text;", 1);
        fault("plan;record a x int @5;", 1);
        fault("plan;record a x int@}", 1);
        fault("plan;record a x int;@a", 1);
        fault("plan;record a x int;@,", 1);
        fault("plan;record a x int;@;", 1);
    }

    static void wordsThatBeginNoType() {
        String[] words = {"plan", "record", "was", "else", "or", "yes", "no"};
        for (String word : words) {
            fault("plan;record a x @" + word + ";", 1);
            fault("plan;record a x list @" + word + ";", 1);
            fault("plan;record a x either @" + word + " or int;", 1);
            fault("plan;record a x either int or @" + word + ";", 1);
        }
    }

    static void wasStandsOnceAndInFrontOfElse() {
        taken("plan;record a x int was y else 5;", 1);
        fault("plan;record a x int else 5 @was y;", 1);
        fault("plan;record a x int was y @was z;", 1);
        fault("plan;record a x int else 5 @else 5;", 1);
    }

    static void elseAsksForALiteral() {
        String[] wrong = {";", ",", "x", "int", "{", "}", "]", "plan", "else"};
        for (String token : wrong) {
            fault("plan;record a x int else @" + token, 1);
        }
    }

    static void anEmptyListIsTheOnlyOneThatIsALiteral() {
        elseTaken("list int", "[]");
        fault("plan;record a x list int else [@5];", 1);
        fault("plan;record a x list int else [@[]];", 1);
        fault("plan;record a x list int else [@;", 1);
        fault("plan;record a x list int else @];", 1);
    }

    static void noneFitsItsOwnAlone() {
        elseTaken("none", "none");
        for (int k = 1; k < SORTS.length; k++) {
            elseFault(SORTS[k], "none");
        }
    }

    static void yesAndNoFitAFlagAlone() {
        elseTaken("flag", "yes");
        elseTaken("flag", "no");
        for (int k = 0; k < SORTS.length; k++) {
            if (k != 1) {
                elseFault(SORTS[k], "yes");
                elseFault(SORTS[k], "no");
            }
        }
    }

    static void aNumberWithoutAPointFitsIntLongAndReal() {
        for (int k = 0; k < SORTS.length; k++) {
            if (k >= 2 && k <= 4) {
                elseTaken(SORTS[k], "7");
                elseTaken(SORTS[k], "-7");
            } else {
                elseFault(SORTS[k], "7");
                elseFault(SORTS[k], "-7");
            }
        }
    }

    static void aNumberWithAPointFitsARealAlone() {
        elseTaken("real", "1.0");
        for (int k = 0; k < SORTS.length; k++) {
            if (k != 4) {
                elseFault(SORTS[k], "1.0");
                elseFault(SORTS[k], "0.0");
            }
        }
    }

    static void aTextFitsATextAlone() {
        elseTaken("text", "\"a\"");
        for (int k = 0; k < SORTS.length; k++) {
            if (k != 5) {
                elseFault(SORTS[k], "\"a\"");
                elseFault(SORTS[k], "\"\"");
            }
        }
    }

    static void anEmptyListFitsAListAlone() {
        elseTaken("list a", "[]");
        elseTaken("list list text", "[ ]");
        for (int k = 0; k < SORTS.length; k++) {
            if (k != 6) {
                elseFault(SORTS[k], "[]");
            }
        }
    }

    static void theGreatestIntAndOneMore() {
        elseTaken("int", "2147483647");
        elseFault("int", "2147483648");
        elseTaken("long", "2147483648");
        elseTaken("real", "2147483648");
        elseFault("int", "999999999999999999");
    }

    static void theLeastIntAndOneLess() {
        elseTaken("int", "-2147483648");
        elseFault("int", "-2147483649");
        elseTaken("long", "-2147483649");
        elseTaken("real", "-2147483649");
        elseFault("int", "-999999999999999999");
    }

    /** Numbers whose lowest 32 bits would make an int. */
    static void farNumbersAreNoInts() {
        elseFault("int", "4294967296");
        elseFault("int", "4294967297");
        elseFault("int", "-4294967296");
        elseFault("int", "9223372036854775");
    }

    static void theFirstBranchAloneIsFitted() {
        elseTaken("either none or int", "none");
        elseTaken("either flag or int", "yes");
        elseTaken("either int or none", "5");
        elseTaken("either long or int", "2147483648");
        elseTaken("either real or int", "2.5");
        elseTaken("either text or int", "\"\"");
        elseTaken("either list int or int", "[]");
        elseFault("either none or int", "5");
        elseFault("either int or long", "2147483648");
        elseFault("either int or real", "2.5");
        elseFault("either text or list int", "[]");
        elseFault("either text or none or flag or int", "5");
        elseFault("either text or flag", "no");
    }

    static void noLiteralFitsARecord() {
        String[] literals = {"none", "yes", "5", "\"a\"", "[]"};
        for (String literal : literals) {
            elseFault("a", literal);
            elseFault("either a or none", literal);
        }
    }

    static void aRecordToldTwice() {
        fault("plan;record a x int;record @a y int;", 3);
        fault("plan;record a x int;record b x int;record @b y int;", 3);
        taken("plan;record a x int;plan;record a x int;", 2);
    }

    static void aFieldToldTwice() {
        fault("plan;record a x int,@x int;", 3);
        fault("plan;record a x int,y int,@x text;", 3);
        taken("plan;record a x int;record b x int;", 1);
        taken("plan;record a a int,b a;", 1);
    }

    static void aFormerNameThatIsItsOwn() {
        fault("plan;record a x int was @x;", 3);
        fault("plan;record a y int,x int was @x else yes;", 3);
    }

    static void aFormerNameThatIsAnothers() {
        taken("plan;record a x int,y int was x;", 1);
        taken("plan;record a x int was y,y int was x;", 1);
        taken("plan;record a x int was z,y int was z;", 1);
        taken("plan;record a x int was a;", 1);
    }

    static void aRecordThatWasNotTold() {
        fault("plan;record a x @b;", 3);
        fault("plan;record a x list list list @b;", 3);
        fault("plan;record a x either int or @b;", 3);
        fault("plan;record a x either int or list @b;", 3);
        fault("plan;record a x int;record c y @b;", 3);
    }

    static void aRecordToldAheadOrBehindOrItself() {
        taken("plan;record a x a;", 1);
        taken("plan;record a x b;record b y int;", 1);
        taken("plan;record a x int;record b y a;", 1);
        taken("plan;record a x b;record b y a;", 1);
    }

    static void aRecordOfAnotherPlanIsNotTold() {
        fault("plan;record a x @b;plan;record b y int;", 3);
        fault("plan;record b y int;plan;record a x @b;", 3);
    }

    static void theFirstNameThatWasNotTold() {
        fault("plan;record a x @c,y b;", 3);
        fault("plan;record a x @b,y b;", 3);
        fault("plan;record a x a,y list @c;record d z b;", 3);
        fault("plan;record a x either int or @c or text,y b;", 3);
    }

    static void aNameThatWasNotToldIsMetAsItsPlanEnds() {
        fault("plan;record a x b;record c @int int;", 1);
        fault("plan;record a x b,y int else @yes;", 2);
        fault("plan;record a x b;record @a y int;", 3);
        fault("plan;record a x @b;plan;record a x int,x int;", 3);
        fault("plan;record a x @b;plan", 3);
        fault("plan;record a x b@", 1);
    }

    static void aNameThatWasNotToldIsAheadOfASeventhPlan() {
        fault("plan;record a x int;".repeat(5) + "plan;record a x @b;plan;record a x int;", 3);
    }

    static void twoBranchesOfOneSort() {
        String[] types = {"none", "flag", "int", "long", "real", "text"};
        for (String type : types) {
            fault("plan;record a x either " + type + " or @" + type + ";", 5);
            fault("plan;record a x either a or " + type + " or @" + type + ";", 5);
            fault("plan;record a x either " + type + " or a or @" + type + ";", 5);
        }
    }

    static void branchesOfAllSorts() {
        taken("plan;record a x either none or flag or int or long,y either real or text or list int or a;", 1);
        taken("plan;record a x either int or long or real;", 1);
    }

    static void twoListsAsBranches() {
        fault("plan;record a x either list int or @list text;", 5);
        fault("plan;record a x either list int or text or @list list int;", 5);
        taken("plan;record a x either list int or text;", 1);
    }

    static void twoRecordsAsBranches() {
        fault("plan;record a x either a or @b;record b y int;", 5);
        fault("plan;record a x either a or @a;", 5);
        fault("plan;record a x either a or int or @b;", 5);
        taken("plan;record a x either a or int;", 1);
    }

    static void anEitherInAnEither() {
        fault("plan;record a x either @either int or text or flag;", 5);
        fault("plan;record a x either int or @either text or flag;", 5);
        fault("plan;record a x either int or text or flag or @either real or none;", 5);
    }

    static void anEitherInAListInAnEither() {
        taken("plan;record a x either int or list either text or flag;", 1);
    }

    static void ofOnePlaceTheLeast() {
        StringBuilder eight = new StringBuilder("plan;record r ");
        for (int k = 0; k < 8; k++) {
            eight.append(letter(k)).append(" int,");
        }
        fault(eight + "@a int;", 3);
        fault("plan;record a x either int or text or none or flag or @int;", 4);
        fault("plan;record a x either int or text or none or flag or @either int or text;", 4);
        fault("plan;record a x list list list either @either int or text;", 4);
        fault("plan;record a x list list either list @list int or text;", 4);
    }

    static void theFirstFromTheLeft() {
        fault("plan;record a x int else @yes,x int,y int was y;%", 2);
        fault("plan;record a x int,@x int else yes;%", 3);
        fault("plan;record a x either int or @int or either;%", 5);
        fault("plan;record a x list list list list @int,x int;", 4);
        fault("plan;record a x int@%,x int;", 1);
        fault("plan;record a x list int else [@yes,x int;", 1);
        fault("plan;record a x int else @[ %", 2);
    }
}
