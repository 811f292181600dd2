/** Promise 11, matches: as a whole, partly, not at all, by each sentence of what matches; what is refused. */
public final class Promise11MatchesTest extends Edge {
    private static final String[] PLAIN = {"none", "flag", "int", "long", "real", "text"};

    public static void main(String[] args) {
        run(Promise11MatchesTest.class);
    }

    /** Of the first plan as the writer and the second one as the reader. */
    private static void records(String writer, String reader, int want) {
        due(writer + " by " + reader, want, with("plan;" + writer + "plan;" + reader).reader.matches(0, 1));
    }

    private static void types(String writer, String reader, int want) {
        records("record a x " + writer + ";record b y int;", "record a x " + reader + ";record b y int;", want);
    }

    static void eachPlainSortByEach() {
        for (int w = 0; w < 6; w++) {
            for (int r = 0; r < 6; r++) {
                boolean good = w == r || w == 2 && r == 3 || w == 2 && r == 4 || w == 3 && r == 4;
                types(PLAIN[w], PLAIN[r], good ? 0 : 2);
            }
        }
    }

    static void listsByTheirTypes() {
        for (int w = 0; w < 6; w++) {
            for (int r = 0; r < 6; r++) {
                boolean good = w == r || w == 2 && r == 3 || w == 2 && r == 4 || w == 3 && r == 4;
                types("list " + PLAIN[w], "list " + PLAIN[r], good ? 0 : 2);
                types("list list list " + PLAIN[w], "list list list " + PLAIN[r], good ? 0 : 2);
            }
        }
    }

    static void listsOfOtherDepths() {
        types("list int", "list list int", 2);
        types("list list int", "list int", 2);
        types("int", "list int", 2);
        types("list int", "int", 2);
    }

    static void recordsAndOthers() {
        types("b", "b", 0);
        for (String plain : PLAIN) {
            types("b", plain, 2);
            types(plain, "b", 2);
        }
        types("b", "list b", 2);
        types("list b", "b", 2);
        types("list b", "list b", 0);
    }

    static void recordsOfOneNameAndOfTwo() {
        records("record a x b;record b y int;", "record a x b;record b y int;", 0);
        records("record a x b;record b y int;", "record a x c;record c y int;", 2);
        records("record a x bb;record bb y int;", "record a x b;record b y int;", 2);
        records("record a x b;record c y int;record b y int;", "record a x b;record b y int;", 0);
    }

    static void rootsWhateverTheirNames() {
        records("record a x int;", "record b x int;", 0);
        records("record a x either none or a;", "record b x either none or b;", 0);
        records("record a x list a;", "record b x list b;", 0);
    }

    static void oneRootAloneNeedsTheName() {
        records("record a x list a;", "record b x list a;record a x list b;", 0);
        records("record a x list a;", "record b x list c;record c x list b;", 2);
        records("record a x list c;record c x list a;", "record b x list b;", 2);
        records("record a x list b;record b x list a;", "record b x list b;", 0);
    }

    static void theFieldOfItsName() {
        records("record a y text,x int;", "record a x int;", 0);
        records("record a xx int;", "record a x int;", 2);
        records("record a abcdefgh int;", "record a abcdefgi int;", 2);
    }

    static void theFieldOfWhatItWas() {
        records("record a x int;", "record a y int was x;", 0);
        records("record a x text;", "record a y int was x;", 2);
        records("record a z int;", "record a y int was x;", 2);
        records("record a x int;", "record a y int was x else 1;", 0);
    }

    static void itsNameGoesAheadOfWhatItWas() {
        records("record a x int,y text;", "record a y int was x;", 2);
        records("record a x text,y int;", "record a y int was x;", 0);
    }

    static void whatTheWritersFieldWasIsNothing() {
        records("record a y int was x;", "record a x int;", 2);
        records("record a y int was x;", "record a z int was x;", 2);
    }

    static void oneFieldOfTheWriterForTwo() {
        records("record a x int;", "record a y int was x,z real was x;", 0);
        records("record a x int;", "record a x int,z real was x;", 0);
        records("record a x int;", "record a x int,z text was x;", 2);
    }

    static void noneIsThereWithAnElseAndWithout() {
        records("record a x int;", "record a y int else 1;", 0);
        records("record a x int;", "record a y int;", 2);
        records("record a x int;", "record a x int,y b;record b z int;", 2);
        records("record a x int;", "record a x int,y either none or b else none;record b z int;", 0);
    }

    static void anElseDoesNotHelpAType() {
        records("record a x text;", "record a x int else 1;", 2);
        records("record a x text;", "record a y int was x else 1;", 2);
    }

    static void whatTheWriterHasMoreIsNothing() {
        records("record a x int,y text,z list a;", "record a x int;", 0);
    }

    static void theLastOfEightFields() {
        String fields = "record a a int,b int,c int,d int,e int,f int,g int,h ";
        records(fields + "int;", fields + "int;", 0);
        records(fields + "int;", fields + "text;", 2);
        records(fields + "text;", "record a h text;", 0);
    }

    static void pairsThatAskForOneAnother() {
        records("record a x a;", "record a x a;", 0);
        records("record a x b;record b y a;", "record a x b;record b y a;", 0);
        records("record a x list b;record b y list c;record c z list a;", "record a x list b;record b y list c;record c z list a;", 0);
    }

    static void pairsThatAskForOneAnotherWithSomethingAgainstIt() {
        records("record a x b;record b y a,z text;", "record a x b;record b y a,z int;", 2);
        records("record a x b;record b y c;record c z a,u int;", "record a x b;record b y c;record c z a,u flag;", 2);
        records("record a x b;record b y a;", "record a x b;record b y a,z int;", 2);
    }

    static void aRingThatFailsInOneBranchAlone() {
        records("record a x either none or a,y text;", "record a x either none or a,y text;", 0);
        records("record a x either none or b;record b y text,z a;", "record a x either none or b;record b y int,z a;", 1);
        records("record a x either none or b;record b y text,z a;", "record a x b;record b y int,z a;", 2);
    }

    static void anEitherOfTheWriter() {
        types("either int or text", "int", 1);
        types("either text or int", "int", 1);
        types("either none or text or flag or int", "int", 1);
        types("either none or text", "int", 2);
        types("either int or long", "long", 0);
        types("either int or long or real", "real", 0);
        types("either int or long or real", "long", 1);
    }

    static void anEitherOfTheReader() {
        types("int", "either text or int", 0);
        types("int", "either text or none or flag or long", 0);
        types("int", "either text or none or flag", 2);
        types("long", "either text or int", 2);
        types("long", "either int or real", 0);
        types("b", "either b or int", 0);
        types("list int", "either int or list real", 0);
        types("list text", "either text or list int", 2);
    }

    static void anEitherOfBoth() {
        types("either int or text", "either text or int", 0);
        types("either int or text", "either none or text", 1);
        types("either int or text", "either none or flag", 2);
        types("either int or text", "either real or list int", 1);
        types("either none or flag or int or text", "either text or int or flag or none", 0);
    }

    static void eithersInLists() {
        types("list either int or text", "list text", 1);
        types("list either int or text", "list flag", 2);
        types("list int", "list either text or long", 0);
        types("list either int or text", "list either text or real", 0);
        types("either list int or text", "list real", 1);
        types("list list either int or text", "list list int", 1);
    }

    static void aRecordInAnEither() {
        records("record a x either b or int;record b y int;", "record a x either b or int;record b y text;", 1);
        records("record a x either b or int;record b y int;", "record a x either c or int;record c y int;", 1);
        records("record a x either b or none;record b y int;", "record a x b;record b y text;", 2);
    }

    static void missesBelowAMatchMakeItPartly() {
        records("record a x b;record b y either int or text;", "record a x b;record b y int;", 1);
        records("record a x list b;record b y either int or text;", "record a x list b;record b y either flag or int;", 1);
    }

    static void aPlanByItself() {
        String[] plans = {"record a x int;", "record a x a;", "record a x either none or a or list text or real;",
            "record a x int else 1,y list list either b or real;record b z none;"};
        for (String plan : plans) {
            due(plan, 0, with("plan;" + plan).reader.matches(0, 0));
        }
    }

    static void firstAndLastOfSixPlans() {
        Probe p = with("plan;record a x int;".repeat(4) + "plan;record a x text;plan;record a x long;");
        due("matches(0, 5)", 0, p.reader.matches(0, 5));
        due("matches(5, 0)", 2, p.reader.matches(5, 0));
        due("matches(5, 5)", 0, p.reader.matches(5, 5));
        due("matches(4, 5)", 2, p.reader.matches(4, 5));
        for (int plan : outside(0, 5)) {
            due("matches(" + plan + ", 0)", NONE, p.reader.matches(plan, 0));
            due("matches(0, " + plan + ")", NONE, p.reader.matches(0, plan));
            due("matches(" + plan + ", " + plan + ")", NONE, p.reader.matches(plan, plan));
        }
    }

    static void noSuchPlan() {
        Probe p = with("plan;record a x int;plan;record a x int;");
        for (int plan : outside(0, 1)) {
            due("matches(" + plan + ", 0)", NONE, p.reader.matches(plan, 0));
            due("matches(0, " + plan + ")", NONE, p.reader.matches(0, plan));
        }
    }

    static void moreThanTwentyMissesAreStillPartly() {
        StringBuilder writer = new StringBuilder("plan;record a ");
        StringBuilder reader = new StringBuilder("plan;record a ");
        for (int k = 0; k < 8; k++) {
            writer.append(k == 0 ? "" : ",").append(letter(k)).append(" either int or text or none or flag");
            reader.append(k == 0 ? "" : ",").append(letter(k)).append(" int");
        }
        due("24 branches that do not match", 1, with(writer + ";" + reader + ";").reader.matches(0, 1));
    }

    static void onePairDoesNotReachAnother() {
        Probe p = with("plan;record a x b;record b y int;plan;record a x b;record b y int;plan;record a x c;record c y int;");
        due("matches(0, 1)", 0, p.reader.matches(0, 1));
        due("matches(0, 2)", 2, p.reader.matches(0, 2));
        due("matches(2, 0)", 2, p.reader.matches(2, 0));
        due("matches(1, 0)", 0, p.reader.matches(1, 0));
        due("matches(0, 2) again", 2, p.reader.matches(0, 2));
    }

    /** Each of six records asked for where each other sort stands. */
    static void theFirstToTheSixthRecordAndOthers() {
        String six = "record b y int;record c y int;record d y int;record e y int;record f y int;";
        for (int k = 0; k < 6; k++) {
            for (String plain : PLAIN) {
                records("record a x " + letter(k) + ";" + six, "record a x " + plain + ";" + six, 2);
                records("record a x " + plain + ";" + six, "record a x " + letter(k) + ";" + six, 2);
            }
            records("record a x " + letter(k) + ";" + six, "record a x " + letter(k) + ";" + six, 0);
            records("record a x " + letter(k) + ";" + six, "record a x " + letter((k + 1) % 6) + ";" + six, 2);
            records("record a x list " + letter(k) + ";" + six, "record a x list list int;" + six, 2);
        }
    }

    /** A chain of six records: what is against the last one is against all that ask for it. */
    static void sixRecordsInAChain() {
        String chain = "record a x b;record b x c;record c x d;record d x e;record e x f;record f x ";
        records(chain + "int;", chain + "long;", 0);
        records(chain + "long;", chain + "int;", 2);
        records(chain + "a;", chain + "a;", 0);
        String back = "record a x f;record f x e;record e x d;record d x c;record c x b;record b x ";
        records(back + "long;", back + "int;", 2);
        records(chain + "either int or text;", chain + "int;", 1);
    }

    /** One's sixth record stands beside the next one's first. */
    static void theSixthRecordsOfThreePlans() {
        String six = "plan;record a x f;record b y int;record c y int;record d y int;record e y int;record f y ";
        Probe p = with(six + "text;" + six + "int;" + six + "int;");
        due("matches(1, 2)", 0, p.reader.matches(1, 2));
        due("matches(2, 1)", 0, p.reader.matches(2, 1));
        due("matches(0, 1)", 2, p.reader.matches(0, 1));
        due("matches(2, 0)", 2, p.reader.matches(2, 0));
        due("matches(0, 0)", 0, p.reader.matches(0, 0));
    }

    static void formerNamesOfEachLetter() {
        for (int k = 0; k < 26; k++) {
            String other = letter((k + 1) % 26);
            records("record r " + letter(k) + " int;", "record r " + other + " int was " + letter(k) + ";", 0);
            records("record r " + letter(k) + " text;", "record r " + other + " int was " + letter(k) + ";", 2);
        }
    }

    static void nothingChanges() {
        Watch.unchanged("matches(0, 1)", Watch::nodes, r -> r.matches(0, 1), 0);
        Watch.unchanged("matches(0, 2)", Watch::failed, r -> r.matches(0, 2), 2);
        Watch.unchanged("matches(0, 3)", Watch::nodes, r -> r.matches(0, 3), NONE);
    }
}
