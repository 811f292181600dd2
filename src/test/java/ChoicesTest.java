/**
 * What was chosen where the document leaves room, as NOTES.md tells: one case for each choice that no case of a
 * promise holds. If an issue tells that another one is meant, its case here is the one to be changed.
 */
public final class ChoicesTest extends Edge {
    public static void main(String[] args) {
        run(ChoicesTest.class);
    }

    static void promise03AFaultLiesAtTheNumberWhosePointHasNoDigitBehindIt() {
        String[] numbers = {"1.", "1. 5", "-1.", "123.a", "1..5", "1.-5"};
        for (String number : numbers) {
            new Probe().plansFault("plan;record a x real else @" + number + ";", 1);
            with("plan;record a x real;").writeFault(0, 0, "{x @" + number + "}", 1);
        }
        new Probe().plansFault("plan;record a x real else @1.", 1);
    }

    static void promise03NothingNeedStandBetweenANumberAndAWord() {
        new Probe().plansFault("plan;record a x int else 12@ab;", 1);
        Probe p = with("plan;record a x int else 12,y int;");
        p.writeFault(0, 0, "{x 12@ab 3}", 1);
    }

    static void promise03AnEitherInAListTakesAllTheBranchesBehindIt() {
        Probe p = with("plan;record a x either int or list either text or flag or none;");
        due("branches of the outer one", 2, p.reader.field(0, 0, 0, 4));
        p.writeDue(0, 0, "{x [\"\",yes,none]}", 7);
        p.bytesDue(0, 2, 6, 0, 0, 2, 1, 4);
    }

    static void promise03PlansLeavesTheFailureAsItWas() {
        Probe p = with("plan;record a x int;");
        p.writeDue(0, 0, "{x 300}", 2);
        p.reader.cut(0, 1);
        due("read", -3, p.reader.read(0, 0));
        p.plansDue("plan;record b y text;", 1);
        p.failureDue(11, 1, 0);
    }

    static void promise04MinusNoughtWithoutAPointIsNoughtAsAReal() {
        Probe p = with("plan;record a x real;");
        p.writeDue(0, 0, "{x -0}", 8);
        p.bytesDue(0, 0, 0, 0, 0, 0, 0, 0, 0);
        p.writeDue(0, 0, "{x -0.0}", 8);
        p.bytesDue(0, 128, 0, 0, 0, 0, 0, 0, 0);
    }

    static void promise12MissesAreCountedWhateverWhatIs() {
        Probe p = with("plan;record a x int;plan;record a x text;");
        for (int what : outside(0, 1)) {
            due("miss(0, 1, NONE, " + what + ")", 1, p.reader.miss(0, 1, NONE, what));
        }
    }

    static void promise16TheBranchThatDoesNotMatchIsTheLastStepOfItsPath() {
        Probe p = with("plan;record a v flag,x list either int or text;plan;record a x list int;");
        p.writeDue(0, 0, "{v yes,x [1,\"a\"]}", 7);
        due("read", -3, p.reader.read(0, 1));
        p.failureDue(13, 4, 1, 101, 201);
    }

    static void promise16ARefusedReadLeavesTheFailureAsItWas() {
        Probe p = with("plan;record a x int;");
        p.writeDue(0, 0, "{x 300}", 2);
        p.reader.cut(0, 1);
        due("read", -3, p.reader.read(0, 0));
        due("no such message", NONE, p.reader.read(4, 0));
        due("no such plan", NONE, p.reader.read(0, 1));
        due("no such message to write", NONE, p.reader.convert(0, 0, 4));
        p.failureDue(11, 1, 0);
    }

    /** What is met where the field v would be the 401st node. */
    private static Probe nodes(String type, String value, int... bytes) {
        Probe p = with("plan;record a x list none,y list none,v " + type + ";record b f flag;");
        int[] all = {0x90, 3, 0x8a, 3, 0, 0, 0, 0};
        System.arraycopy(bytes, 0, all, 4, bytes.length);
        p.put(0, 0, "{x [" + joined("none", 64) + "],y [" + joined("none", 64) + "],v " + value + "}",
                java.util.Arrays.copyOf(all, 4 + bytes.length));
        due("read", -3, p.reader.read(0, 0));
        return p;
    }

    static void promise16APlain401stNodeIsMetBehindItsBytes() {
        nodes("flag", "yes", 1).failureDue(15, NONE);
        nodes("flag", "yes", 2).failureDue(12, 4, 2);
        nodes("int", "5").failureDue(11, 4, 2);
        nodes("text", "\"ab\"", 4, 'a', '!').failureDue(12, 4, 2);
        nodes("either flag or int", "5", 4, 0).failureDue(12, 4, 2);
        nodes("either flag or int", "5", 0, 2).failureDue(12, 5, 2, 200);
    }

    static void promise16AListThatIsThe401stNodeIsMetBehindItsCount() {
        nodes("list flag", "[yes]", 1, 0).failureDue(12, 4, 2);
        nodes("list flag", "[yes]", 2, 2).failureDue(15, NONE);
    }

    static void promise16ARecordThatIsThe401stNodeIsMetAheadOfItsFields() {
        nodes("b", "{f yes}", 2).failureDue(15, NONE);
    }

    static void promise20LettersInFrontOfTheFirstAreNone() {
        Probe p = with("plan;record a x text;");
        p.writeDue(0, 0, "{x \"ab\"}", 3);
        due("read", 2, p.reader.read(0, 0));
        throwsDue("letter(1, -1)", () -> p.reader.letter(1, -1));
        throwsDue("letter(1, MIN)", () -> p.reader.letter(1, MIN));
    }
}
