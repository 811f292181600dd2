/** Promise 2, feed: twenty bytes more behind the tape, of each number the highest first, 1000 at most. */
public final class Promise02FeedTest extends Edge {
    private static final int BLANKS = 0x20202020;

    public static void main(String[] args) {
        run(Promise02FeedTest.class);
    }

    private static int feedBlanks(ShapeReader r) {
        return r.feed(BLANKS, BLANKS, BLANKS, BLANKS, BLANKS);
    }

    static void theFirstTwentyBytes() {
        ShapeReader r = new ShapeReader();
        due("feed", 20, feedBlanks(r));
        due("count(5)", 20, r.count(5));
    }

    static void eachCallUpToTheFiftiethBringsTwentyMore() {
        ShapeReader r = new ShapeReader();
        for (int k = 1; k <= 50; k++) {
            due("feed " + k, 20 * k, feedBlanks(r));
        }
        due("count(5)", 1000, r.count(5));
    }

    static void theFiftyFirstIsRefused() {
        ShapeReader r = new ShapeReader();
        for (int k = 1; k <= 50; k++) {
            feedBlanks(r);
        }
        due("feed 51", NONE, feedBlanks(r));
        due("feed 52", NONE, r.feed(MIN, MAX, 0, -1, 1));
        due("count(5)", 1000, r.count(5));
    }

    static void aRefusedOneChangesNothing() {
        Watch.unchanged("feed onto a full tape", Watch::fullTape, r -> r.feed(1, 2, 3, 4, 5), NONE);
        Watch.unchanged("feed of far numbers", Watch::fullTape, r -> r.feed(MIN, MAX, MIN, MAX, MIN), NONE);
    }

    static void aRefusedOneLeavesTheLastBytesOfTheTape() {
        Probe p = new Probe();
        p.feed(" ".repeat(980));
        p.feed("plan;record a x int;");
        due("feed 51", NONE, p.reader.feed(0, 0, 0, 0, 0));
        due("plans(1000)", 1, p.reader.plans(1000));
    }

    static void aTakenOneChangesTheTapeAlone() {
        Watch.unchangedBut("feed", Watch::nodes, r -> r.feed(1, 2, 3, 4, 5), 40, "count(5)", "plans()");
        Watch.unchangedBut("feed", Watch::failed, r -> r.feed(1, 2, 3, 4, 5), 40, "count(5)", "plans()");
    }

    /** A byte that begins no token is told by its place. */
    static void eachOfTheTwentyBytesHasItsPlace() {
        for (int k = 0; k < 20; k++) {
            ShapeReader r = new ShapeReader();
            int[] five = {BLANKS, BLANKS, BLANKS, BLANKS, BLANKS};
            five[k / 4] = BLANKS ^ 1 << (24 - 8 * (k % 4));
            r.feed(five[0], five[1], five[2], five[3], five[4]);
            due("plans with byte " + k + " being 33", Probe.fault(k, 1), r.plans(20));
        }
    }

    static void theBytesOfANumberComeHighestFirst() {
        ShapeReader r = new ShapeReader();
        r.feed(0x706c616e, 0x3b726563, 0x6f726420, 0x61207820, 0x696e743b);
        due("plans", 1, r.plans(20));
        due("record a has a field", 1, r.record(0, 0, 0));
        due("it is an int", 2, r.field(0, 0, 0, 0));
    }

    static void leastAndGreatestNumbersAreBytesToo() {
        int[] numbers = {MIN, MAX, -1, 0};
        for (int number : numbers) {
            ShapeReader r = new ShapeReader();
            due("feed", 20, r.feed(number, number, number, number, number));
            due("no token begins with it", Probe.fault(0, 1), r.plans(20));
        }
    }

    static void aBytesSignDoesNotReachTheOthers() {
        ShapeReader r = new ShapeReader();
        r.feed(0x706c616e, 0x3b726563, 0x6f726420, 0x61207820, 0x696e74ff);
        due("the 255 is the twentieth byte", Probe.fault(19, 1), r.plans(20));
    }

    static void aWordMayGoOnInTheNextTwenty() {
        Probe p = new Probe();
        p.feed("plan;\nrecord letters");
        p.feed("a x int;");
        due("plans", 1, p.reader.plans(28));
        due("letters of the name", 8, p.reader.record(0, 0, 1));
    }

    static void behindARefusedPlansItGoesOn() {
        ShapeReader r = new ShapeReader();
        feedBlanks(r);
        due("plans(21)", NONE, r.plans(21));
        due("feed", 40, feedBlanks(r));
    }

    static void behindPlansItBeginsAnew() {
        Probe p = new Probe();
        p.feed("plan;record a x int;plan;record b y int;");
        due("plans of the first half", 1, p.reader.plans(20));
        due("feed", 20, feedBlanks(p.reader));
        due("what was behind is gone", NONE, p.reader.plans(21));
    }

    static void behindAFaultItBeginsAnew() {
        Probe p = new Probe();
        p.feed("plan;");
        due("plans", Probe.fault(20, 1), p.reader.plans(20));
        due("feed", 20, feedBlanks(p.reader));
    }

    static void behindWriteItBeginsAnew() {
        Probe p = with("plan;record a x int;");
        p.writeDue(0, 0, "{x 1}", 1);
        due("feed", 20, feedBlanks(p.reader));
    }

    static void aTapeFullOnceTakesBytesAgain() {
        Probe p = new Probe();
        for (int round = 0; round < 3; round++) {
            for (int k = 1; k <= 50; k++) {
                due("feed " + k, 20 * k, feedBlanks(p.reader));
            }
            due("feed 51", NONE, feedBlanks(p.reader));
            due("plans of blanks", Probe.fault(1000, 1), p.reader.plans(1000));
        }
    }
}
