import java.util.ArrayList;
import java.util.Arrays;
import java.util.HashMap;
import java.util.HashSet;
import java.util.LinkedHashMap;
import java.util.List;
import java.util.Map;
import java.util.NoSuchElementException;
import java.util.Set;

/** The document told a second time, slowly and with the whole library, to compare ShapeReader with. */
final class Model {
    static final List<String> KEYWORDS = Arrays.asList("plan", "record", "was", "else", "list", "either", "or",
            "none", "flag", "int", "long", "real", "text", "yes", "no");
    static final List<String> SORTS = Arrays.asList("none", "flag", "int", "long", "real", "text");

    static final class Fault extends RuntimeException {
        final int place;
        final int kind;

        Fault(int place, int kind) {
            super(null, null, false, false);
            this.place = place;
            this.kind = kind;
        }

        int answer() {
            return -2 - (8 * place + kind);
        }
    }

    static final class Failure extends RuntimeException {
        final int kind;
        final int at;
        final List<Integer> path;

        Failure(int kind, int at, List<Integer> path) {
            super(null, null, false, false);
            this.kind = kind;
            this.at = at;
            this.path = new ArrayList<>(path);
        }
    }

    static final class Type {
        int sort;
        List<Type> parts = new ArrayList<>();
        String name;
        int place;
        Rec record;
    }

    static final class Field {
        String name;
        String was;
        Type type;
        Object literal;
    }

    static final class Rec {
        String name;
        static int made = 0;
        final int id = made++;
        boolean root;
        int number;
        List<Field> fields = new ArrayList<>();

        Field named(String wanted) {
            for (Field f : fields) {
                if (f.name.equals(wanted)) {
                    return f;
                }
            }
            return null;
        }
    }

    /** kind: w word, n number, t text, e end, b bad, or the sign itself. */
    static final class Token {
        char kind;
        int place;
        String text;
    }

    /** A value: sort tells which of these holds; items are of lists (by order) and records (by field name). */
    static final class Value {
        int sort;
        Object plain;
        List<Value> items = new ArrayList<>();
        Map<String, Value> fields = new LinkedHashMap<>();
    }

    static final class Node {
        int sort;
        Node parent;
        int place;
        boolean filled;
        Object plain;
        int many;
        Node[] parts = new Node[0];
        int number;
    }

    static final class Msg {
        int plan;
        int[] bytes;
    }

    static final class Miss {
        int kind;
        List<Integer> path;
    }

    byte[] tape = new byte[0];
    List<List<Rec>> plans = new ArrayList<>();
    Msg[] messages = new Msg[4];
    List<Node> nodes = new ArrayList<>();
    Failure failure;
    List<Integer> kept = new ArrayList<>();
    int found;
    int notFound;

    // ---- tokens

    private List<Token> tokens;
    private int at;

    private static List<Token> scan(byte[] text, int n) {
        String s = new String(text, 0, n, java.nio.charset.StandardCharsets.ISO_8859_1);
        List<Token> list = new ArrayList<>();
        int i = 0;
        while (true) {
            while (i < n && (s.charAt(i) == ' ' || s.charAt(i) == '\n')) {
                i++;
            }
            Token t = new Token();
            t.place = i;
            list.add(t);
            if (i == n) {
                t.kind = 'e';
                return list;
            }
            java.util.regex.Matcher word = java.util.regex.Pattern.compile("[a-z]+").matcher(s).region(i, n);
            java.util.regex.Matcher number =
                    java.util.regex.Pattern.compile("-?[0-9]+(\\.[0-9]*)?").matcher(s).region(i, n);
            java.util.regex.Matcher quoted = java.util.regex.Pattern.compile("\"[a-z]{0,12}\"").matcher(s).region(i, n);
            if (word.lookingAt() && word.group().length() <= 8) {
                t.kind = 'w';
                t.text = word.group();
            } else if (number.lookingAt() && number.group().matches("-?[0-9]{1,18}(\\.[0-9])?")) {
                t.kind = 'n';
                t.text = number.group();
            } else if (quoted.lookingAt()) {
                t.kind = 't';
                t.text = quoted.group();
            } else if ("{}[],;".indexOf(s.charAt(i)) >= 0) {
                t.kind = s.charAt(i);
                t.text = s.substring(i, i + 1);
            } else {
                t.kind = 'b';
                return list;
            }
            i += t.text.length();
        }
    }

    private Token now() {
        return tokens.get(at);
    }

    private boolean is(String word) {
        return now().kind == 'w' && now().text.equals(word);
    }

    private boolean isName() {
        return now().kind == 'w' && !KEYWORDS.contains(now().text);
    }

    private Fault faultHere(int kind) {
        return new Fault(now().place, kind);
    }

    private void pass(char sign) {
        if (now().kind != sign) {
            throw faultHere(1);
        }
        at++;
    }

    private String passName() {
        if (!isName()) {
            throw faultHere(1);
        }
        return tokens.get(at++).text;
    }

    // ---- plans

    private List<List<Rec>> planText() {
        List<List<Rec>> all = new ArrayList<>();
        if (!is("plan")) {
            throw faultHere(1);
        }
        while (is("plan")) {
            if (all.size() == 6) {
                throw faultHere(4);
            }
            at++;
            pass(';');
            List<Rec> plan = new ArrayList<>();
            List<Type> asked = new ArrayList<>();
            do {
                recordText(plan, asked);
            } while (is("record"));
            if (!is("plan") && now().kind != 'e') {
                throw faultHere(1);
            }
            for (Type t : asked) {
                for (Rec r : plan) {
                    if (r.name.equals(t.name)) {
                        t.record = r;
                    }
                }
                if (t.record == null) {
                    throw new Fault(t.place, 3);
                }
            }
            all.add(plan);
        }
        return all;
    }

    private void recordText(List<Rec> plan, List<Type> asked) {
        if (!is("record")) {
            throw faultHere(1);
        }
        if (plan.size() == 6) {
            throw faultHere(4);
        }
        at++;
        Rec rec = new Rec();
        rec.root = plan.isEmpty();
        rec.number = plan.size();
        Fault twice = faultHere(3);
        rec.name = passName();
        for (Rec r : plan) {
            if (r.name.equals(rec.name)) {
                throw twice;
            }
        }
        plan.add(rec);
        while (true) {
            fieldText(rec, asked);
            if (now().kind == ';') {
                at++;
                return;
            }
            pass(',');
        }
    }

    private void fieldText(Rec rec, List<Type> asked) {
        Field f = new Field();
        Fault twice = faultHere(3);
        Fault ninth = faultHere(4);
        f.name = passName();
        if (rec.named(f.name) != null) {
            throw twice;
        }
        if (rec.fields.size() == 8) {
            throw ninth;
        }
        rec.fields.add(f);
        f.type = typeText(0, null, asked);
        if (is("was")) {
            at++;
            Fault own = faultHere(3);
            f.was = passName();
            if (f.was.equals(f.name)) {
                throw own;
            }
        }
        if (is("else")) {
            at++;
            if (!beginsLiteral()) {
                throw faultHere(1);
            }
            Type t = f.type.sort == 8 ? f.type.parts.get(0) : f.type;
            if (!fits(t)) {
                throw faultHere(2);
            }
            f.literal = plainOf(t.sort);
            at++;
            if (t.sort == 6) {
                pass(']');
            }
        }
    }

    private Type typeText(int depth, Type either, List<Type> asked) {
        Type t = new Type();
        t.place = now().place;
        if (isName()) {
            t.sort = 7;
        } else if (is("list")) {
            t.sort = 6;
        } else if (is("either")) {
            t.sort = 8;
        } else if (now().kind == 'w' && SORTS.contains(now().text)) {
            t.sort = SORTS.indexOf(now().text);
        } else {
            throw faultHere(1);
        }
        if (depth == 4 || either != null && either.parts.size() == 4) {
            throw faultHere(4);
        }
        if (either != null) {
            if (t.sort == 8) {
                throw faultHere(5);
            }
            for (Type other : either.parts) {
                if (other.sort == t.sort) {
                    throw faultHere(5);
                }
            }
        }
        if (t.sort == 7) {
            t.name = now().text;
            asked.add(t);
        }
        at++;
        if (t.sort == 6) {
            t.parts.add(typeText(depth + 1, null, asked));
        }
        if (t.sort == 8) {
            t.parts.add(typeText(depth + 1, t, asked));
            do {
                if (!is("or")) {
                    throw faultHere(1);
                }
                at++;
                t.parts.add(typeText(depth + 1, t, asked));
            } while (is("or"));
        }
        return t;
    }

    private boolean beginsLiteral() {
        char k = now().kind;
        return k == 'n' || k == 't' || k == '[' || is("none") || is("yes") || is("no");
    }

    private boolean fits(Type t) {
        String s = now().text;
        switch (t.sort) {
            case 0:
                return is("none");
            case 1:
                return is("yes") || is("no");
            case 2:
                return now().kind == 'n' && !s.contains(".") && Long.parseLong(s) == (int) Long.parseLong(s);
            case 3:
                return now().kind == 'n' && !s.contains(".");
            case 4:
                return now().kind == 'n';
            case 5:
                return now().kind == 't';
            case 6:
                return now().kind == '[';
            case 7:
                return now().kind == '{';
            default:
                return false;
        }
    }

    private Object plainOf(int sort) {
        String s = now().text;
        switch (sort) {
            case 1:
                return s.equals("yes") ? 1L : 0L;
            case 2:
            case 3:
                return Long.parseLong(s);
            case 4:
                if (!s.contains(".")) {
                    return (double) Long.parseLong(s);
                }
                String whole = s.substring(0, s.indexOf('.')).replace("-", "");
                double d = (double) Long.parseLong(whole) + (s.charAt(s.length() - 1) - '0') / 10.0;
                return s.startsWith("-") ? -d : d;
            case 5:
                return s.substring(1, s.length() - 1);
            default:
                return "";
        }
    }

    // ---- values

    private Value valueText(Type type, int depth, boolean tooMany) {
        if (!beginsLiteral() && now().kind != '{') {
            throw faultHere(1);
        }
        Type fitting = null;
        List<Type> choices = type.sort == 8 ? type.parts : List.of(type);
        for (Type t : choices) {
            if (fitting == null && fits(t)) {
                fitting = t;
            }
        }
        if (fitting == null) {
            throw faultHere(2);
        }
        if (depth == 31 || tooMany) {
            throw faultHere(4);
        }
        Value v = new Value();
        v.sort = fitting.sort;
        v.plain = plainOf(fitting.sort);
        at++;
        if (v.sort == 6) {
            itemsText(v, fitting.parts.get(0), depth);
        } else if (v.sort == 7) {
            fieldsText(v, fitting.record, depth);
        }
        return v;
    }

    private void itemsText(Value v, Type type, int depth) {
        if (now().kind == ']') {
            at++;
            return;
        }
        while (true) {
            v.items.add(valueText(type, depth + 1, v.items.size() >= 200));
            if (now().kind == ']') {
                at++;
                return;
            }
            pass(',');
        }
    }

    private void fieldsText(Value v, Rec rec, int depth) {
        if (now().kind != '}') {
            while (true) {
                Fault fault = faultHere(3);
                String name = passName();
                if (rec.named(name) == null || v.fields.containsKey(name)) {
                    throw fault;
                }
                v.fields.put(name, valueText(rec.named(name).type, depth + 1, false));
                if (now().kind == '}') {
                    break;
                }
                pass(',');
            }
        }
        for (Field f : rec.fields) {
            if (!v.fields.containsKey(f.name) && f.literal == null) {
                throw faultHere(6);
            }
        }
        at++;
    }

    private static void bytesOf(Value v, Type type, List<Integer> out) {
        Type own = type;
        if (type.sort == 8) {
            for (int b = 0; b < type.parts.size(); b++) {
                if (type.parts.get(b).sort == v.sort) {
                    numberBytes(b, out);
                    own = type.parts.get(b);
                }
            }
        }
        if (v.sort == 6) {
            numberBytes(v.items.size(), out);
            for (Value item : v.items) {
                bytesOf(item, own.parts.get(0), out);
            }
        } else if (v.sort == 7) {
            for (Field f : own.record.fields) {
                Value told = v.fields.get(f.name);
                bytesOf(told != null ? told : elseOf(f), f.type, out);
            }
        } else {
            plainBytes(v.sort, v.plain, out);
        }
    }

    private static Value elseOf(Field f) {
        Value v = new Value();
        v.sort = f.type.sort == 8 ? f.type.parts.get(0).sort : f.type.sort;
        v.plain = f.literal;
        return v;
    }

    private static void numberBytes(long v, List<Integer> out) {
        java.math.BigInteger z = java.math.BigInteger.valueOf(v).shiftLeft(1);
        if (v < 0) {
            z = z.negate().subtract(java.math.BigInteger.ONE);
        }
        do {
            int part = z.intValue() & 127;
            z = z.shiftRight(7);
            out.add(z.signum() == 0 ? part : part + 128);
        } while (z.signum() != 0);
    }

    private static void plainBytes(int sort, Object plain, List<Integer> out) {
        switch (sort) {
            case 1:
                out.add(((Long) plain).intValue());
                break;
            case 2:
            case 3:
                numberBytes((Long) plain, out);
                break;
            case 4:
                for (int k = 7; k >= 0; k--) {
                    out.add((int) (Double.doubleToLongBits((Double) plain) >>> (8 * k)) & 255);
                }
                break;
            case 5:
                numberBytes(((String) plain).length(), out);
                for (char c : ((String) plain).toCharArray()) {
                    out.add((int) c);
                }
                break;
            default:
                break;
        }
    }

    // ---- matches: what no number of looks down can speak against

    private final Map<String, Boolean> looked = new HashMap<>();

    private boolean typesMatch(Type w, Type r, int looks) {
        if (w.sort == 8) {
            boolean any = false;
            for (Type b : w.parts) {
                any |= typesMatch(b, r, looks);
            }
            return any;
        }
        if (r.sort == 8) {
            return chosen(w, r, looks) != null;
        }
        if (w.sort == 6 && r.sort == 6) {
            return typesMatch(w.parts.get(0), r.parts.get(0), looks);
        }
        if (w.sort == 7 && r.sort == 7) {
            return recordsMatch(w.record, r.record, looks);
        }
        if (w.sort > 5 || r.sort > 5) {
            return false;
        }
        return w.sort == r.sort || w.sort == 2 && r.sort == 3 || w.sort == 2 && r.sort == 4
                || w.sort == 3 && r.sort == 4;
    }

    private Type chosen(Type w, Type r, int looks) {
        for (Type b : r.parts) {
            if (b.sort == w.sort && typesMatch(w, b, looks)) {
                return b;
            }
        }
        for (Type b : r.parts) {
            if (typesMatch(w, b, looks)) {
                return b;
            }
        }
        return null;
    }

    private static boolean mayBe(Rec w, Rec r) {
        return w.root && r.root || w.name.equals(r.name);
    }

    private boolean recordsMatch(Rec w, Rec r, int looks) {
        if (!mayBe(w, r)) {
            return false;
        }
        if (looks == 0) {
            return true;
        }
        String key = w.id + " " + r.id + " " + looks;
        Boolean known = looked.get(key);
        if (known == null) {
            known = true;
            for (Field f : r.fields) {
                Field s = source(w, f);
                known &= s == null ? f.literal != null : typesMatch(s.type, f.type, looks - 1);
            }
            looked.put(key, known);
        }
        return known;
    }

    private static Field source(Rec w, Field f) {
        Field s = w.named(f.name);
        return s == null && f.was != null ? w.named(f.was) : s;
    }

    static final int LOOKS = 40;

    List<Miss> misses(int writer, int reader) {
        List<Miss> list = new ArrayList<>();
        looked.clear();
        missesOfRecords(plans.get(writer).get(0), plans.get(reader).get(0), new ArrayList<>(), list, new HashSet<>());
        return list.size() > 20 ? list.subList(0, 20) : list;
    }

    private void misses(Type w, Type r, List<Integer> path, List<Miss> list, Set<String> seen) {
        if (w.sort == 8) {
            for (int b = 0; b < w.parts.size(); b++) {
                List<Integer> below = with(path, 200 + b);
                if (typesMatch(w.parts.get(b), r, LOOKS)) {
                    misses(w.parts.get(b), r, below, list, seen);
                } else {
                    miss(4, below, list);
                }
            }
        } else if (r.sort == 8) {
            Type c = chosen(w, r, LOOKS);
            if (c == null) {
                miss(3, path, list);
            } else {
                misses(w, c, path, list, seen);
            }
        } else if (w.sort == 7 && r.sort == 7 && mayBe(w.record, r.record)) {
            missesOfRecords(w.record, r.record, path, list, seen);
        } else if (w.sort == 6 && r.sort == 6) {
            misses(w.parts.get(0), r.parts.get(0), with(path, 100), list, seen);
        } else if (!typesMatch(w, r, LOOKS)) {
            miss(2, path, list);
        }
    }

    private void missesOfRecords(Rec w, Rec r, List<Integer> path, List<Miss> list, Set<String> seen) {
        if (!seen.add(w.number + " " + r.number)) {
            return;
        }
        for (int f = 0; f < r.fields.size(); f++) {
            Field s = source(w, r.fields.get(f));
            if (s != null) {
                misses(s.type, r.fields.get(f).type, with(path, f), list, seen);
            } else if (r.fields.get(f).literal == null) {
                miss(1, with(path, f), list);
            }
        }
    }

    private static List<Integer> with(List<Integer> path, int step) {
        List<Integer> longer = new ArrayList<>(path);
        longer.add(step);
        return longer;
    }

    private static void miss(int kind, List<Integer> path, List<Miss> list) {
        Miss m = new Miss();
        m.kind = kind;
        m.path = path;
        list.add(m);
    }

    // ---- reading

    private int[] bytes;
    private int next;
    private int made;

    private List<Node> reading(Msg msg, int plan) {
        bytes = msg.bytes;
        next = 0;
        made = 0;
        Type w = new Type();
        w.sort = 7;
        w.record = plans.get(msg.plan).get(0);
        Type r = new Type();
        r.sort = 7;
        r.record = plans.get(plan).get(0);
        Node root = take(w, r, 0, new ArrayList<>());
        if (next < bytes.length) {
            throw new Failure(14, next, new ArrayList<>());
        }
        List<Node> list = new ArrayList<>();
        number(root, list);
        return list;
    }

    private static void number(Node node, List<Node> list) {
        node.number = list.size();
        list.add(node);
        for (int k = 0; k < node.parts.length; k++) {
            node.parts[k].parent = node;
            node.parts[k].place = k;
            number(node.parts[k], list);
        }
    }

    private Node make(Type r) {
        if (r == null) {
            return null;
        }
        made++;
        if (made > 400) {
            throw new Failure(15, -1, new ArrayList<>());
        }
        Node n = new Node();
        n.sort = r.sort;
        return n;
    }

    private Node take(Type writer, Type reader, int depth, List<Integer> path) {
        if (depth == 31) {
            throw new Failure(16, next, path);
        }
        Type w = writer;
        List<Integer> here = path;
        if (writer.sort == 8) {
            int from = next;
            int b = (int) number(0, writer.parts.size() - 1, path);
            here = with(path, 200 + b);
            w = writer.parts.get(b);
            if (reader != null && !typesMatch(w, reader, LOOKS)) {
                throw new Failure(13, from, here);
            }
        }
        Type r = reader != null && reader.sort == 8 ? chosen(w, reader, LOOKS) : reader;
        if (w.sort == 7) {
            return takeRecord(w.record, r, depth, here);
        }
        if (w.sort == 6) {
            int many = (int) number(0, 200, here);
            Node n = make(r);
            Node[] parts = new Node[many];
            for (int k = 0; k < many; k++) {
                parts[k] = take(w.parts.get(0), r == null ? null : r.parts.get(0), depth + 1, with(here, 100 + k));
            }
            if (n != null) {
                n.parts = parts;
                n.many = many;
            }
            return n;
        }
        Object plain = takePlain(w.sort, here);
        Node n = make(r);
        if (n != null) {
            n.plain = r.sort == 4 && w.sort != 4 ? Double.valueOf((double) (Long) plain) : plain;
            n.many = r.sort == 5 ? ((String) plain).length() : 0;
        }
        return n;
    }

    private Node takeRecord(Rec w, Type reader, int depth, List<Integer> path) {
        Node n = make(reader);
        Rec r = reader == null ? null : reader.record;
        Node[] parts = new Node[r == null ? 0 : r.fields.size()];
        for (int f = 0; f < w.fields.size(); f++) {
            int from = next;
            boolean taken = false;
            for (int k = 0; k < parts.length; k++) {
                if (source(w, r.fields.get(k)) == w.fields.get(f)) {
                    next = from;
                    parts[k] = take(w.fields.get(f).type, r.fields.get(k).type, depth + 1, with(path, f));
                    taken = true;
                }
            }
            if (!taken) {
                take(w.fields.get(f).type, null, depth + 1, with(path, f));
            }
        }
        for (int k = 0; k < parts.length; k++) {
            if (parts[k] == null) {
                Field f = r.fields.get(k);
                parts[k] = make(f.type.sort == 8 ? f.type.parts.get(0) : f.type);
                parts[k].filled = true;
                parts[k].plain = f.literal;
                parts[k].many = parts[k].sort == 5 ? ((String) f.literal).length() : 0;
            }
        }
        if (n != null) {
            n.parts = parts;
            n.many = parts.length;
        }
        return n;
    }

    private int oneByte(List<Integer> path) {
        if (next == bytes.length) {
            throw new Failure(11, bytes.length, path);
        }
        return bytes[next++];
    }

    private long number(long least, long most, List<Integer> path) {
        int from = next;
        java.math.BigInteger z = java.math.BigInteger.ZERO;
        for (int k = 0;; k++) {
            int b = oneByte(path);
            if (k == 9 && b > 1) {
                throw new Failure(12, from, path);
            }
            z = z.or(java.math.BigInteger.valueOf(b & 127).shiftLeft(7 * k));
            if (b < 128) {
                break;
            }
        }
        java.math.BigInteger half = z.shiftRight(1);
        long v = z.testBit(0) ? half.negate().subtract(java.math.BigInteger.ONE).longValueExact()
                : half.longValueExact();
        if (v < least || v > most) {
            throw new Failure(12, from, path);
        }
        return v;
    }

    private Object takePlain(int sort, List<Integer> path) {
        int from = next;
        switch (sort) {
            case 1:
                int flag = oneByte(path);
                if (flag > 1) {
                    throw new Failure(12, from, path);
                }
                return (long) flag;
            case 2:
                return number(Integer.MIN_VALUE, Integer.MAX_VALUE, path);
            case 3:
                return number(Long.MIN_VALUE, Long.MAX_VALUE, path);
            case 4:
                long bits = 0;
                for (int k = 0; k < 8; k++) {
                    bits = bits * 256 + oneByte(path);
                }
                return Double.longBitsToDouble(bits);
            case 5:
                int many = (int) number(0, 12, path);
                StringBuilder text = new StringBuilder();
                for (int k = 0; k < many; k++) {
                    int c = oneByte(path);
                    if (c < 'a' || c > 'z') {
                        throw new Failure(12, from, path);
                    }
                    text.append((char) c);
                }
                return text.toString();
            default:
                return "";
        }
    }

    private static Value valueOf(Node n, Type type) {
        Type own = type;
        if (type.sort == 8) {
            for (Type b : type.parts) {
                if (b.sort == n.sort) {
                    own = b;
                }
            }
        }
        Value v = new Value();
        v.sort = n.sort;
        v.plain = n.plain;
        for (int k = 0; k < n.parts.length; k++) {
            if (n.sort == 6) {
                v.items.add(valueOf(n.parts[k], own.parts.get(0)));
            } else {
                Field f = own.record.fields.get(k);
                v.fields.put(f.name, valueOf(n.parts[k], f.type));
            }
        }
        return v;
    }

    private static long worth(Node n) {
        switch (n.sort) {
            case 1:
            case 2:
            case 3:
                return (Long) n.plain;
            case 4:
                return Double.doubleToLongBits((Double) n.plain);
            default:
                return 0;
        }
    }

    // ---- the face

    int feed(int... five) {
        if (tape.length + 20 > 1000) {
            return -1;
        }
        java.nio.ByteBuffer longer = java.nio.ByteBuffer.allocate(tape.length + 20);
        longer.put(tape);
        for (int number : five) {
            longer.putInt(number);
        }
        tape = longer.array();
        return tape.length;
    }

    private void takeTape(int n) {
        tokens = scan(tape, n);
        at = 0;
        tape = new byte[0];
    }

    int plans(int n) {
        if (n < 0 || n > tape.length) {
            return -1;
        }
        takeTape(n);
        try {
            plans = planText();
        } catch (Fault f) {
            return f.answer();
        }
        messages = new Msg[4];
        nodes = new ArrayList<>();
        kept.clear();
        found = 0;
        notFound = 0;
        return plans.size();
    }

    private boolean noPlan(int plan) {
        return plan < 0 || plan >= plans.size();
    }

    private boolean noMessage(int message) {
        return message < 0 || message > 3 || messages[message] == null;
    }

    int write(int message, int plan, int n) {
        if (message < 0 || message > 3 || noPlan(plan) || n < 0 || n > tape.length) {
            return -1;
        }
        takeTape(n);
        List<Integer> out = new ArrayList<>();
        try {
            Type root = rootOf(plan);
            Value v = valueText(root, 0, false);
            if (now().kind != 'e') {
                throw faultHere(1);
            }
            bytesOf(v, root, out);
            if (out.size() > 400) {
                throw new Fault(n, 7);
            }
        } catch (Fault f) {
            return f.answer();
        }
        return store(message, plan, out);
    }

    private Type rootOf(int plan) {
        Type root = new Type();
        root.sort = 7;
        root.record = plans.get(plan).get(0);
        return root;
    }

    private int store(int message, int plan, List<Integer> out) {
        messages[message] = new Msg();
        messages[message].plan = plan;
        messages[message].bytes = out.stream().mapToInt(x -> x).toArray();
        return out.size();
    }

    int record(int plan, int record, int what) {
        if (noPlan(plan)) {
            return -1;
        }
        if (record == -1) {
            return plans.get(plan).size();
        }
        if (record < 0 || record >= plans.get(plan).size()) {
            return -1;
        }
        Rec r = plans.get(plan).get(record);
        return what == 0 ? r.fields.size() : what == 1 ? r.name.length() : -1;
    }

    int field(int plan, int record, int field, int what) {
        if (noPlan(plan) || record < 0 || record >= plans.get(plan).size() || field < 0
                || field >= plans.get(plan).get(record).fields.size()) {
            return -1;
        }
        Field f = plans.get(plan).get(record).fields.get(field);
        switch (what) {
            case 0:
                return f.type.sort;
            case 1:
                return f.literal == null ? 0 : 1;
            case 2:
                return f.was == null ? 0 : 1;
            case 3:
                return f.name.length();
            case 4:
                return f.type.sort == 8 ? f.type.parts.size() : 0;
            case 5:
                Type t = f.type;
                while (t.sort == 6) {
                    t = t.parts.get(0);
                }
                return t.sort == 7 ? t.record.number : -1;
            default:
                return -1;
        }
    }

    int message(int message, int what) {
        if (noMessage(message)) {
            return -1;
        }
        return what == 0 ? messages[message].bytes.length : what == 1 ? messages[message].plan : -1;
    }

    int byteAt(int message, int i) {
        if (noMessage(message) || i < 0 || i >= messages[message].bytes.length) {
            throw new NoSuchElementException();
        }
        return messages[message].bytes[i];
    }

    int spoil(int message, int i, int x) {
        if (noMessage(message) || i < 0 || i >= messages[message].bytes.length) {
            return -1;
        }
        int was = messages[message].bytes[i];
        messages[message].bytes[i] = was ^ (x & 255);
        return was;
    }

    int cut(int message, int n) {
        if (noMessage(message) || n < 0 || n > messages[message].bytes.length) {
            return -1;
        }
        int were = messages[message].bytes.length;
        messages[message].bytes = Arrays.copyOf(messages[message].bytes, n);
        return were;
    }

    private boolean rootsMatch(int writer, int reader) {
        looked.clear();
        return recordsMatch(plans.get(writer).get(0), plans.get(reader).get(0), LOOKS);
    }

    int matches(int writer, int reader) {
        if (noPlan(writer) || noPlan(reader)) {
            return -1;
        }
        return !rootsMatch(writer, reader) ? 2 : misses(writer, reader).isEmpty() ? 0 : 1;
    }

    int miss(int writer, int reader, int i, int what) {
        if (noPlan(writer) || noPlan(reader)) {
            return -1;
        }
        List<Miss> list = misses(writer, reader);
        if (i == -1) {
            return list.size();
        }
        if (i < 0 || i >= list.size()) {
            return -1;
        }
        return what == 0 ? list.get(i).kind : what == 1 ? list.get(i).path.size() : -1;
    }

    int missStep(int writer, int reader, int i, int k) {
        if (noPlan(writer) || noPlan(reader)) {
            return -1;
        }
        List<Miss> list = misses(writer, reader);
        return i < 0 || i >= list.size() || k < 0 || k >= list.get(i).path.size() ? -1 : list.get(i).path.get(k);
    }

    int readers(int writer, int what) {
        if (noPlan(writer) || what != 0 && what != 1) {
            return -1;
        }
        int bits = 0;
        for (int r = 0; r < plans.size(); r++) {
            int m = matches(writer, r);
            bits |= m == 0 || m == 1 && what == 1 ? 1 << r : 0;
        }
        return bits;
    }

    private void use(int writer, int reader) {
        Integer pair = 10 * writer + reader;
        if (kept.remove(pair)) {
            found++;
        } else {
            notFound++;
        }
        kept.add(0, pair);
        if (kept.size() > 4) {
            kept.remove(4);
        }
    }

    int read(int message, int plan) {
        if (noMessage(message) || noPlan(plan)) {
            return -1;
        }
        use(messages[message].plan, plan);
        nodes = new ArrayList<>();
        failure = null;
        if (!rootsMatch(messages[message].plan, plan)) {
            return -2;
        }
        try {
            nodes = reading(messages[message], plan);
            return nodes.size();
        } catch (Failure f) {
            failure = f;
            return -3;
        }
    }

    int failure(int what) {
        if (failure == null) {
            return -1;
        }
        return what == 0 ? failure.kind : what == 1 ? failure.path.size() : what == 2 ? failure.at : -1;
    }

    int failureStep(int k) {
        return failure == null || k < 0 || k >= failure.path.size() ? -1 : failure.path.get(k);
    }

    private Node nodeAt(int i) {
        if (i < 0 || i >= nodes.size()) {
            throw new NoSuchElementException();
        }
        return nodes.get(i);
    }

    int node(int i, int what) {
        Node n = nodeAt(i);
        switch (what) {
            case 0:
                return n.sort;
            case 1:
                return n.parent == null ? -1 : n.parent.number;
            case 2:
                return n.place;
            case 3:
                return n.many;
            case 4:
                return n.filled ? 1 : 0;
            default:
                throw new NoSuchElementException();
        }
    }

    long value(int i) {
        return worth(nodeAt(i));
    }

    int letter(int i, int k) {
        Node n = nodeAt(i);
        if (n.sort != 5 || k < 0) {
            throw new NoSuchElementException();
        }
        return k < n.many ? ((String) n.plain).charAt(k) - 'a' + 1 : 0;
    }

    int convert(int message, int plan, int to) {
        if (to < 0 || to > 3) {
            return -1;
        }
        int many = read(message, plan);
        if (many < 0) {
            return many;
        }
        List<Integer> out = new ArrayList<>();
        bytesOf(valueOf(nodes.get(0), rootOf(plan)), rootOf(plan), out);
        return out.size() > 400 ? -4 : store(to, plan, out);
    }

    int alike(int one, int other, int plan) {
        if (noMessage(one) || noMessage(other) || noPlan(plan)) {
            return -1;
        }
        List<List<Node>> both = new ArrayList<>();
        for (int m : new int[] {one, other}) {
            if (!rootsMatch(messages[m].plan, plan)) {
                return -2;
            }
            try {
                both.add(reading(messages[m], plan));
            } catch (Failure f) {
                return -3;
            }
        }
        return told(both.get(0)).equals(told(both.get(1))) ? 1 : 0;
    }

    private static String told(List<Node> list) {
        StringBuilder all = new StringBuilder();
        for (Node n : list) {
            all.append(n.sort).append(' ').append(n.parent == null ? -1 : n.parent.number).append(' ');
            all.append(n.place).append(' ').append(n.many).append(' ').append(worth(n)).append(' ');
            all.append(n.sort == 5 ? n.plain : "").append('\n');
        }
        return all.toString();
    }

    int kept(int i) {
        return i == -1 ? kept.size() : i < 0 || i >= kept.size() ? -1 : kept.get(i);
    }

    int count(int what) {
        switch (what) {
            case 0:
                return plans.size();
            case 1:
                int bits = 0;
                for (int m = 0; m < 4; m++) {
                    bits |= messages[m] == null ? 0 : 1 << m;
                }
                return bits;
            case 2:
                return nodes.size();
            case 3:
                return found;
            case 4:
                return notFound;
            case 5:
                return tape.length;
            default:
                return -1;
        }
    }
}
