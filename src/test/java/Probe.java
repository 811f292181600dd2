import java.util.NoSuchElementException;

/** A ShapeReader with texts fed as texts, and a tally of the answers that are not as due. */
final class Probe {
    static int wrong = 0;
    static int asked = 0;
    /** The name of the case that is run, in front of what is told of it. */
    static String currentCase = "";

    final ShapeReader reader = new ShapeReader();

    static void due(String what, long want, long got) {
        asked++;
        if (want != got) {
            wrong++;
            System.out.println(currentCase + what + " answered " + got + ", due is " + want);
        }
    }

    static void finish(String test) {
        System.out.println(test + ": " + asked + " answers asked for, " + wrong + " wrong");
        if (wrong != 0) {
            System.exit(1);
        }
    }

    void feed(String text) {
        feed(reader, text);
    }

    static void feed(ShapeReader reader, String text) {
        for (int i = 0; i < text.length(); i += 20) {
            int[] five = new int[5];
            for (int k = 0; k < 20; k++) {
                int sign = i + k < text.length() ? text.charAt(i + k) : ' ';
                five[k / 4] = five[k / 4] << 8 | sign & 255;
            }
            reader.feed(five[0], five[1], five[2], five[3], five[4]);
        }
    }

    int plans(String text) {
        feed(text);
        return reader.plans(text.length());
    }

    int write(int message, int plan, String text) {
        feed(text);
        return reader.write(message, plan, text.length());
    }

    static int fault(int place, int kind) {
        return -2 - (8 * place + kind);
    }

    void plansDue(String text, int want) {
        due("plans(" + text + ")", want, plans(text));
    }

    /** The fault's place is where the mark @ stands in the text, which is taken out. */
    void plansFault(String marked, int kind) {
        int place = marked.indexOf('@');
        String text = marked.substring(0, place) + marked.substring(place + 1);
        due("plans(" + marked + ") fault " + kind, fault(place, kind), plans(text));
    }

    void writeDue(int message, int plan, String text, int want) {
        due("write(" + message + ", " + plan + ", " + text + ")", want, write(message, plan, text));
    }

    void writeFault(int message, int plan, String marked, int kind) {
        int place = marked.indexOf('@');
        String text = marked.substring(0, place) + marked.substring(place + 1);
        due("write(" + message + ", " + plan + ", " + marked + ") fault " + kind,
                fault(place, kind), write(message, plan, text));
    }

    void bytesDue(int message, int... want) {
        due("bytes of " + message, want.length, reader.message(message, 0));
        for (int i = 0; i < want.length && i < reader.message(message, 0); i++) {
            due("byte " + i + " of " + message, want[i], reader.byteAt(message, i));
        }
    }

    /** Sort, parent, place, size, filled and value of a node. */
    void nodeDue(int i, int sort, int parent, int place, int size, int filled, long value) {
        due("sort of node " + i, sort, reader.node(i, 0));
        due("parent of node " + i, parent, reader.node(i, 1));
        due("place of node " + i, place, reader.node(i, 2));
        due("size of node " + i, size, reader.node(i, 3));
        due("filling of node " + i, filled, reader.node(i, 4));
        due("value of node " + i, value, reader.value(i));
    }

    String letters(int i) {
        StringBuilder text = new StringBuilder();
        for (int k = 0; reader.letter(i, k) != 0; k++) {
            text.append((char) ('a' - 1 + reader.letter(i, k)));
        }
        return text.toString();
    }

    void lettersDue(int i, String want) {
        due("letters of node " + i + " are " + want, 1, letters(i).equals(want) ? 1 : 0);
    }

    void missDue(int writer, int reader, int i, int kind, int... path) {
        String name = "miss " + i + " of " + writer + ", " + reader;
        due(name + " kind", kind, this.reader.miss(writer, reader, i, 0));
        due(name + " steps", path.length, this.reader.miss(writer, reader, i, 1));
        for (int k = 0; k < path.length; k++) {
            due(name + " step " + k, path[k], this.reader.missStep(writer, reader, i, k));
        }
        due(name + " step behind", -1, this.reader.missStep(writer, reader, i, path.length));
    }

    void failureDue(int kind, int at, int... path) {
        due("failure kind", kind, reader.failure(0));
        due("failure " + kind + " steps", path.length, reader.failure(1));
        due("failure " + kind + " byte", at, reader.failure(2));
        for (int k = 0; k < path.length; k++) {
            due("failure " + kind + " step " + k, path[k], reader.failureStep(k));
        }
        due("failure " + kind + " step behind", -1, reader.failureStep(path.length));
    }

    /** A message of these bytes: they are put over those that the text has, which must be as many at least. */
    void put(int message, int plan, String text, int... bytes) {
        int size = write(message, plan, text);
        due("write(" + text + ") has bytes enough", 1, size >= bytes.length ? 1 : 0);
        for (int i = 0; i < bytes.length && i < size; i++) {
            reader.spoil(message, i, reader.byteAt(message, i) ^ bytes[i]);
        }
        reader.cut(message, bytes.length);
    }

    void keptDue(int... pairs) {
        due("pairs kept", pairs.length, reader.kept(ShapeReader.NONE));
        for (int i = 0; i < pairs.length; i++) {
            due("pair " + i, pairs[i], reader.kept(i));
        }
        due("none behind", ShapeReader.NONE, reader.kept(pairs.length));
    }

    interface Call {
        long answer();
    }

    static void throwsDue(String what, Call call) {
        asked++;
        try {
            long got = call.answer();
            wrong++;
            System.out.println(currentCase + what + " answered " + got + ", due is a NoSuchElementException");
        } catch (NoSuchElementException e) {
            return;
        }
    }
}
