/** Promise 20, letter: 1 to 26, 0 behind the last one; all else throws. */
public final class Promise20LetterTest extends Edge {
    public static void main(String[] args) {
        run(Promise20LetterTest.class);
    }

    private static Probe read() {
        Probe p = with("plan;record a t text,u text,f flag,i int,l long,r real,k list text,n none;plan;record a t text,v text else \"zyx\";");
        due("write", 1, p.write(0, 0, "{t \"abcdefghijkl\",u \"\",f yes,i 1,l 1,r 1,k [\"z\"],n none}") > 0 ? 1 : 0);
        due("read", 10, p.reader.read(0, 0));
        return p;
    }

    private static void none(Probe p, int i, int k) {
        throwsDue("letter(" + i + ", " + k + ")", () -> p.reader.letter(i, k));
    }

    static void theTwelveLetters() {
        Probe p = read();
        for (int k = 0; k < 12; k++) {
            due("letter(1, " + k + ")", k + 1, p.reader.letter(1, k));
        }
    }

    static void theTwentySixLetters() {
        for (int k = 0; k < 26; k++) {
            Probe p = with("plan;record a t text;");
            p.writeDue(0, 0, "{t \"" + letter(k) + letter(25 - k) + "\"}", 3);
            due("read", 2, p.reader.read(0, 0));
            due("letter " + k, k + 1, p.reader.letter(1, 0));
            due("letter " + (25 - k), 26 - k, p.reader.letter(1, 1));
        }
    }

    static void behindTheLastOne() {
        Probe p = read();
        int[] behind = {12, 13, 64, 1000, MAX};
        for (int k : behind) {
            due("letter(1, " + k + ")", 0, p.reader.letter(1, k));
        }
        due("of no letters", 0, p.reader.letter(2, 0));
        due("of no letters", 0, p.reader.letter(2, MAX));
        due("of one letter", 26, p.reader.letter(8, 0));
        due("of one letter", 0, p.reader.letter(8, 1));
    }

    static void inFrontOfTheFirstOne() {
        Probe p = read();
        none(p, 1, -1);
        none(p, 1, MIN);
    }

    static void ofOthersThanTexts() {
        Probe p = read();
        int[] others = {0, 3, 4, 5, 6, 7, 9};
        for (int i : others) {
            none(p, i, 0);
        }
    }

    static void ofWhatWasFilledIn() {
        Probe p = read();
        due("read", 3, p.reader.read(0, 1));
        p.lettersDue(2, "zyx");
    }

    static void noSuchNode() {
        Probe p = read();
        for (int i : outside(0, 9)) {
            none(p, i, 0);
        }
    }

    static void noneWithoutNodes() {
        Probe p = with("plan;record a t text;");
        none(p, 0, 0);
        p.writeDue(0, 0, "{t \"abc\"}", 4);
        due("read", 2, p.reader.read(0, 0));
        p.reader.cut(0, 2);
        due("read", -3, p.reader.read(0, 0));
        none(p, 1, 0);
    }

    static void nothingChanges() {
        Watch.unchanged("letter(1, 0)", Watch::nodes, r -> r.letter(1, 0), 8);
        Watch.unchanged("letter(0, 0)", Watch::nodes, r -> r.letter(0, 0), Watch.THROWS);
        Watch.unchanged("letter(1, 0)", Watch::failed, r -> r.letter(1, 0), Watch.THROWS);
    }
}
