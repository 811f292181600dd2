/** For each promise of the document ordinary calls, the edges that it names, and wrong inputs. */
public final class PromiseTest {
    private static final int NONE = ShapeReader.NONE;

    public static void main(String[] args) {
        newObject();
        feed();
        Probe.finish("PromiseTest");
    }

    private static void newObject() {
        Probe p = new Probe();
        for (int what = 0; what <= 5; what++) {
            Probe.due("count(" + what + ") of a new object", 0, p.reader.count(what));
        }
    }

    private static void feed() {
        Probe p = new Probe();
        for (int k = 1; k <= 50; k++) {
            Probe.due("feed " + k, 20 * k, p.reader.feed(1, 2, 3, 4, 5));
        }
        Probe.due("feed beyond the tape", NONE, p.reader.feed(1, 2, 3, 4, 5));
    }
}
