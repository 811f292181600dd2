/** Promise 3, the text: blanks, words, numbers, texts and single signs, up to their longest. */
public final class Promise03TokensTest extends Edge {
    private static final String DIGITS = "123456789012345678";

    public static void main(String[] args) {
        run(Promise03TokensTest.class);
    }

    private static boolean isLetter(int sign) {
        return sign >= 'a' && sign <= 'z';
    }

    private static void taken(String text) {
        new Probe().plansDue(text, 1);
    }

    private static void fault(String marked, int kind) {
        new Probe().plansFault(marked, kind);
    }

    static void blanksAre32And10AndNoOtherByte() {
        for (int sign = 0; sign < 256; sign++) {
            int want = sign == 32 || sign == 10 ? 1
                    : Probe.fault(isLetter(sign) ? 0 : sign == ';' ? 5 : 4, 1);
            new Probe().plansDue("plan" + (char) sign + ";record a x int;", want);
        }
    }

    static void noByteButABlankMayStandInFront() {
        for (int sign = 0; sign < 256; sign++) {
            int want = sign == 32 || sign == 10 ? 1 : Probe.fault(0, 1);
            new Probe().plansDue((char) sign + "plan;record a x int;", want);
        }
    }

    static void noByteButABlankMayStandBehind() {
        for (int sign = 0; sign < 256; sign++) {
            int want = sign == 32 || sign == 10 ? 1 : Probe.fault(20, 1);
            new Probe().plansDue("plan;record a x int;" + (char) sign, want);
        }
    }

    static void manyBlanksMayStandAnywhere() {
        taken("\n\n  plan \n ;\n record \n a \n x \n list  either int or\ntext was \n y else [ \n ] ;\n\n ");
    }

    static void blanksNeedNotStandBesideSigns() {
        taken("plan;record a x list int was y else[],z text else\"ab\",w int else-5;record b p flag;");
    }

    static void twoWordsNeedABlankBetweenThem() {
        fault("plan;@recorda x int;", 1);
        fault("plan;record ax @int;", 1);
    }

    static void aWordOfOneLetter() {
        taken("plan;record a b c;record c d int was e;");
        taken("plan;record z z z;");
    }

    static void aWordOfEightLetters() {
        taken("plan;record abcdefgh ijklmnop qrstuvwx;record qrstuvwx y int was zabcdefg;");
    }

    static void aRecordsNameOfNineLetters() {
        fault("plan;record @abcdefghi x int;", 1);
    }

    static void aFieldsNameOfNineLetters() {
        fault("plan;record a @abcdefghi int;", 1);
    }

    static void aTypeOfNineLetters() {
        fault("plan;record a x @abcdefghi;", 1);
    }

    static void aFormerNameOfNineLetters() {
        fault("plan;record a x int was @abcdefghi;", 1);
    }

    static void aWordOfAThousandLetters() {
        fault("@" + "p".repeat(1000), 1);
    }

    static void eightLettersThatDifferInTheLastAlone() {
        taken("plan;record a abcdefgh int,abcdefgi int;");
        fault("plan;record a abcdefgh int,@abcdefgh int;", 3);
    }

    static void aNameThatBeginsAnotherIsAnother() {
        taken("plan;record a a int,aa int,aaa int,aaaaaaaa int,b int,ba int;");
    }

    static void lettersAreAToZAlone() {
        taken("plan;record az za int;");
        fault("plan;record a@` x int;", 1);
        fault("plan;record a@A x int;", 1);
        fault("plan;record a @Z int;", 1);
        fault("plan;record a@{ x int;", 1);
        fault("plan;record a@_b x int;", 1);
        fault("plan;record a@\u00e9 x int;", 1);
    }

    static void theWordsOfTheTextAreNoNames() {
        String[] words = {"plan", "record", "was", "else", "list", "either", "or", "none", "flag", "int", "long",
            "real", "text", "yes", "no"};
        for (String word : words) {
            fault("plan;record @" + word + " x int;", 1);
            fault("plan;record a @" + word + " int;", 1);
            fault("plan;record a x int was @" + word + ";", 1);
        }
    }

    static void wordsLikeThoseOfTheTextAreNames() {
        String[] words = {"plans", "pla", "recor", "records", "wa", "wass", "els", "elses", "lis", "lists", "eithe",
            "eithers", "o", "ors", "non", "nones", "fla", "flags", "in", "ints", "lon", "longs", "rea", "reals", "tex",
            "texts", "ye", "yess", "n", "noo"};
        for (String word : words) {
            taken("plan;record " + word + " " + word + " " + word + " was x;");
        }
    }

    static void aNumberOfOneDigit() {
        for (int digit = 0; digit <= 9; digit++) {
            taken("plan;record a x int else " + digit + ";");
            taken("plan;record a x int else -" + digit + ";");
        }
    }

    static void aNumberOfEighteenDigits() {
        taken("plan;record a x long else " + DIGITS + ";");
        taken("plan;record a x long else -" + DIGITS + ";");
        taken("plan;record a x real else " + DIGITS + ".9;");
        taken("plan;record a x real else -" + DIGITS + ".9;");
    }

    static void aNumberOfNineteenDigits() {
        fault("plan;record a x long else @" + DIGITS + "9;", 1);
        fault("plan;record a x long else @-" + DIGITS + "9;", 1);
        fault("plan;record a x real else @" + DIGITS + "9.5;", 1);
        fault("plan;record a x real else @" + "7".repeat(900) + ";", 1);
    }

    static void noughtsInFrontAreDigits() {
        taken("plan;record a x int else 000000000000000007;");
        fault("plan;record a x int else @0000000000000000007;", 1);
    }

    static void digitsAre0To9Alone() {
        taken("plan;record a x int else 0;");
        taken("plan;record a x int else 9;");
        fault("plan;record a x int else @/;", 1);
        fault("plan;record a x int else @:;", 1);
        fault("plan;record a x int else 5@:;", 1);
    }

    static void aMinusNeedsADigitRightBehindIt() {
        fault("plan;record a x int else @-;", 1);
        fault("plan;record a x int else @- 1;", 1);
        fault("plan;record a x int else @--1;", 1);
        fault("plan;record a x int else @-.5;", 1);
        fault("plan;record a x int else @-", 1);
        fault("plan;record a x int else @+1;", 1);
    }

    static void oneDigitBehindThePoint() {
        taken("plan;record a x real else 0.0;");
        taken("plan;record a x real else 1.9;");
        taken("plan;record a x real else -0.1;");
    }

    static void twoDigitsBehindThePoint() {
        fault("plan;record a x real else @1.25;", 1);
        fault("plan;record a x real else @-1.00;", 1);
    }

    static void aPointNeedsADigitInFront() {
        fault("plan;record a x real else @.5;", 1);
    }

    static void aPartedNumberIsNone() {
        fault("plan;record a x real else 1 @.5;", 1);
        fault("plan;record a x real else 1 @5;", 1);
        fault("plan;record a x real else 1.5@.5;", 1);
    }

    static void aTextOfNoLetters() {
        taken("plan;record a x text else \"\";");
    }

    static void aTextOfTwelveLetters() {
        taken("plan;record a x text else \"abcdefghijkl\";");
        taken("plan;record a x text else \"zzzzzzzzzzzz\";");
    }

    static void aTextOfThirteenLetters() {
        fault("plan;record a x text else @\"abcdefghijklm\";", 1);
        fault("plan;record a x text else @\"" + "a".repeat(900) + "\";", 1);
    }

    static void aTextThatIsNotClosed() {
        fault("plan;record a x text else @\"", 1);
        fault("plan;record a x text else @\"abc", 1);
        fault("plan;record a x text else @\"abcdefghijkl", 1);
        fault("plan;record a x text else @\"abc;", 1);
    }

    static void aTextThatIsClosedBehindTheEnd() {
        Probe p = new Probe();
        p.feed("plan;record a x text else \"ab\";");
        due("plans(29)", Probe.fault(26, 1), p.reader.plans(29));
        p.feed("plan;record a x text else \"ab\";");
        due("plans(30)", Probe.fault(30, 1), p.reader.plans(30));
    }

    static void aTextHasSmallLettersAlone() {
        String[] wrong = {"a b", " a", "a ", "A", "5", "a-b", "`", "{", "a\nb", "\u00e9"};
        for (String letters : wrong) {
            fault("plan;record a x text else @\"" + letters + "\";", 1);
        }
    }

    static void singleSigns() {
        String[] none = {"(", ")", "<", ">", ":", ".", "'", "|", "=", "\\", "\t", "\r", "\0"};
        for (String sign : none) {
            fault("plan;record a x int @" + sign + ";", 1);
        }
    }
}
