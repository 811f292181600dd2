/** Promise 4, the bytes: of each sort the least, the greatest, and where a number takes one byte more. */
public final class Promise04BytesTest extends Edge {
    public static void main(String[] args) {
        run(Promise04BytesTest.class);
    }

    private static void bytes(String type, String value, int... bytes) {
        Probe p = with("plan;record a x " + type + ";");
        p.writeDue(0, 0, "{x " + value + "}", bytes.length);
        p.bytesDue(0, bytes);
    }

    private static void size(String type, String value, int many) {
        with("plan;record a x " + type + ";").writeDue(0, 0, "{x " + value + "}", many);
    }

    static void noneHasNothing() {
        bytes("none", "none");
    }

    static void flags() {
        bytes("flag", "yes", 1);
        bytes("flag", "no", 0);
    }

    static void numbersOfOneByte() {
        String[] types = {"int", "long"};
        for (String type : types) {
            bytes(type, "0", 0);
            bytes(type, "-0", 0);
            bytes(type, "-1", 1);
            bytes(type, "1", 2);
            bytes(type, "63", 126);
            bytes(type, "-64", 127);
        }
    }

    static void numbersOfTwoBytes() {
        String[] types = {"int", "long"};
        for (String type : types) {
            bytes(type, "64", 128, 1);
            bytes(type, "-65", 129, 1);
            bytes(type, "8191", 254, 127);
            bytes(type, "-8192", 255, 127);
        }
    }

    static void numbersOfThreeBytes() {
        String[] types = {"int", "long"};
        for (String type : types) {
            bytes(type, "8192", 128, 128, 1);
            bytes(type, "-8193", 129, 128, 1);
            bytes(type, "1048575", 254, 255, 127);
            bytes(type, "-1048576", 255, 255, 127);
        }
    }

    static void numbersOfFourBytes() {
        String[] types = {"int", "long"};
        for (String type : types) {
            bytes(type, "1048576", 128, 128, 128, 1);
            bytes(type, "-1048577", 129, 128, 128, 1);
            bytes(type, "134217727", 254, 255, 255, 127);
            bytes(type, "-134217728", 255, 255, 255, 127);
        }
    }

    static void numbersOfFiveBytes() {
        String[] types = {"int", "long"};
        for (String type : types) {
            bytes(type, "134217728", 128, 128, 128, 128, 1);
            bytes(type, "2147483647", 254, 255, 255, 255, 15);
            bytes(type, "-2147483648", 255, 255, 255, 255, 15);
        }
        bytes("long", "2147483648", 128, 128, 128, 128, 16);
        bytes("long", "-2147483649", 129, 128, 128, 128, 16);
    }

    static void numbersUpToNineBytes() {
        for (int many = 6; many <= 9; many++) {
            long least = 1L << (7 * many - 8);
            size("long", String.valueOf(least - 1), many - 1);
            size("long", String.valueOf(least), many);
            size("long", String.valueOf(-least), many - 1);
            size("long", String.valueOf(-least - 1), many);
        }
    }

    static void theGreatestNumbersOfTheText() {
        bytes("long", "999999999999999999", 0xfe, 0xff, 0x9f, 0xf6, 0xf4, 0xac, 0xdb, 0xe0, 0x1b);
        bytes("long", "-999999999999999999", 0xfd, 0xff, 0x9f, 0xf6, 0xf4, 0xac, 0xdb, 0xe0, 0x1b);
    }

    static void numbersThatAreNoInts() {
        Probe p = with("plan;record a x int;");
        p.writeFault(0, 0, "{x @2147483648}", 2);
        p.writeFault(0, 0, "{x @-2147483649}", 2);
        p.writeFault(0, 0, "{x @4294967296}", 2);
        p.writeFault(0, 0, "{x @0.0}", 2);
    }

    static void reals() {
        bytes("real", "0.0", 0, 0, 0, 0, 0, 0, 0, 0);
        bytes("real", "0", 0, 0, 0, 0, 0, 0, 0, 0);
        bytes("real", "-0.0", 128, 0, 0, 0, 0, 0, 0, 0);
        bytes("real", "1", 0x3f, 0xf0, 0, 0, 0, 0, 0, 0);
        bytes("real", "-1.0", 0xbf, 0xf0, 0, 0, 0, 0, 0, 0);
        bytes("real", "0.5", 0x3f, 0xe0, 0, 0, 0, 0, 0, 0);
    }

    static void aMinusStandsInFrontOfAll() {
        bytes("real", "-1.5", 0xbf, 0xf8, 0, 0, 0, 0, 0, 0);
        bytes("real", "-0.5", 0xbf, 0xe0, 0, 0, 0, 0, 0, 0);
        bytes("real", "-12.5", 0xc0, 0x29, 0, 0, 0, 0, 0, 0);
        bytes("real else -3.5", "-3.5", 0xc0, 0x0c, 0, 0, 0, 0, 0, 0);
    }

    static void realsWithoutAPoint() {
        bytes("real", "-1", 0xbf, 0xf0, 0, 0, 0, 0, 0, 0);
        bytes("real", "-2147483649", 0xc1, 0xe0, 0, 0, 0, 0x20, 0, 0);
        bytes("real", "2", 0x40, 0, 0, 0, 0, 0, 0, 0);
        bytes("real else -2", "-2", 0xc0, 0, 0, 0, 0, 0, 0, 0);
    }

    static void aRealWithoutAPointBehindOneWithIt() {
        Probe p = with("plan;record a x real,y real else 3;");
        p.writeDue(0, 0, "{x 1.5,y 2}", 16);
        due("x", 0xf8, p.reader.byteAt(0, 1));
        due("y", 0x40, p.reader.byteAt(0, 8));
        due("y", 0, p.reader.byteAt(0, 9));
        p.writeDue(0, 0, "{x -1.5,y 2}", 16);
        due("y", 0x40, p.reader.byteAt(0, 8));
        p.plansDue("plan;record a x real else -1.5,y real else 2,z int else 3;", 1);
        p.writeDue(0, 0, "{}", 17);
        due("y", 0x40, p.reader.byteAt(0, 8));
        due("y", 0, p.reader.byteAt(0, 9));
        due("z", 6, p.reader.byteAt(0, 16));
    }

    static void fieldsOfOldPlansHaveNoBytes() {
        Probe p = with("plan;record a x int else 1,y int else 2,z int else 3;record b x int else 1;");
        p.writeDue(0, 0, "{}", 3);
        p.plansDue("plan;record a x int else 1,y list int else [];", 1);
        p.writeDue(0, 0, "{}", 2);
        p.bytesDue(0, 2, 0);
        p.plansDue("plan;record a x int else 1,y list b else [];record b z flag;", 1);
        p.writeDue(0, 0, "{y [{z yes}]}", 3);
        p.bytesDue(0, 2, 2, 1);
    }

    static void realsAreTheWholePartAndTheTenthsAdded() {
        String[] texts = {"0.1", "0.9", "-0.3", "1.1", "2.7", "99999999999999999.9", "999999999999999999.9", "-999999999999999999.9",
            "999999999999999999", "9007199254740991.9", "9007199254740992.5", "9007199254740993", "4503599627370495.5"};
        double[] worths = {0 + 1 / 10.0, 9 / 10.0, -(3 / 10.0), 1 + 1 / 10.0, 2 + 7 / 10.0, 99999999999999999L + 9 / 10.0,
            999999999999999999L + 9 / 10.0, -(999999999999999999L + 9 / 10.0), 999999999999999999L, 9007199254740991L + 9 / 10.0,
            9007199254740992L + 5 / 10.0, 9007199254740993L, 4503599627370495L + 5 / 10.0};
        for (int k = 0; k < texts.length; k++) {
            long bits = Double.doubleToLongBits(worths[k]);
            int[] want = new int[8];
            for (int i = 0; i < 8; i++) {
                want[i] = (int) (bits >>> (56 - 8 * i)) & 255;
            }
            bytes("real", texts[k], want);
        }
    }

    static void textsOfNoLettersAndOfTwelve() {
        bytes("text", "\"\"", 0);
        bytes("text", "\"z\"", 2, 'z');
        bytes("text", "\"abcdefghijkl\"", 24, 'a', 'b', 'c', 'd', 'e', 'f', 'g', 'h', 'i', 'j', 'k', 'l');
    }

    static void aTextOfThirteenLetters() {
        Probe p = with("plan;record a x text;");
        p.writeFault(0, 0, "{x @\"abcdefghijklm\"}", 1);
    }

    static void anEmptyList() {
        bytes("list int", "[]", 0);
        bytes("list list int", "[[],[]]", 4, 0, 0);
    }

    static void aListsCountOfOneByteAndOfTwo() {
        bytes("list none", "[" + joined("none", 63) + "]", 126);
        bytes("list none", "[" + joined("none", 64) + "]", 128, 1);
    }

    static void aListOfTwoHundred() {
        bytes("list none", "[" + joined("none", 199) + "]", 0x8e, 3);
        Probe p = with("plan;record a x list int;");
        p.writeDue(0, 0, "{x [" + joined("1", 200) + "]}", 202);
        due("its count", 0x90, p.reader.byteAt(0, 0));
        due("its count", 3, p.reader.byteAt(0, 1));
    }

    static void theFourBranches() {
        String type = "either none or int or text or list int";
        bytes(type, "none", 0);
        bytes(type, "5", 2, 10);
        bytes(type, "\"a\"", 4, 2, 'a');
        bytes(type, "[1]", 6, 2, 2);
    }

    static void theFirstBranchThatANumberFits() {
        bytes("either int or long", "2147483647", 0, 254, 255, 255, 255, 15);
        bytes("either int or long", "2147483648", 2, 128, 128, 128, 128, 16);
        bytes("either int or long", "-2147483648", 0, 255, 255, 255, 255, 15);
        bytes("either int or long", "-2147483649", 2, 129, 128, 128, 128, 16);
        bytes("either long or int", "1", 0, 2);
        bytes("either real or int", "1", 0, 0x3f, 0xf0, 0, 0, 0, 0, 0, 0);
        bytes("either int or real", "1", 0, 2);
        bytes("either int or real", "1.0", 2, 0x3f, 0xf0, 0, 0, 0, 0, 0, 0);
        size("either int or real", "2147483648", 9);
        size("either text or int or long or real", "0.5", 9);
    }

    static void noBranchThatANumberFits() {
        Probe p = with("plan;record a x either int or long,y either int or text else 1;");
        p.writeFault(0, 0, "{x @1.5}", 2);
        p.writeFault(0, 0, "{x 1,y @2147483648}", 2);
    }

    static void aRecordFieldByField() {
        Probe p = with("plan;record a x int,y b,z flag;record b v int,w text;");
        p.writeDue(0, 0, "{z yes,y {w \"a\",v 1},x 3}", 5);
        p.bytesDue(0, 6, 2, 2, 'a', 1);
    }

    static void whatElseTellsForFieldsLeftOut() {
        Probe p = with("plan;record a n none else none,f flag else yes,i int else -2147483648,l long else -1,r real else -0.0,"
                + "t text else \"ab\",k list a else [],e either text or int else \"\";");
        p.writeDue(0, 0, "{}", 1 + 5 + 1 + 8 + 3 + 1 + 2);
        p.bytesDue(0, 1, 255, 255, 255, 255, 15, 1, 128, 0, 0, 0, 0, 0, 0, 0, 4, 'a', 'b', 0, 0, 0);
    }

    static void whatElseTellsForOneOfEightFields() {
        StringBuilder plan = new StringBuilder("plan;record r ");
        for (int k = 0; k < 8; k++) {
            plan.append(k == 0 ? "" : ",").append(letter(k)).append(" int else ").append(k);
        }
        Probe p = with(plan + ";");
        p.writeDue(0, 0, "{h 20,a 30}", 8);
        p.bytesDue(0, 60, 2, 4, 6, 8, 10, 12, 40);
        for (int k = 0; k < 8; k++) {
            p.writeDue(1, 0, "{" + letter(k) + " -1}", 8);
            for (int i = 0; i < 8; i++) {
                due("byte " + i, i == k ? 1 : 2 * i, p.reader.byteAt(1, i));
            }
        }
    }
}
