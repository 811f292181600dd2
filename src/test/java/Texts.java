import java.util.ArrayList;
import java.util.List;
import java.util.Random;

/** Texts of plans and of values, made by chance from a seed that is always the same. */
final class Texts {
    private static final String[] FIELD_NAMES = {"a", "b", "c", "d", "e", "x", "y", "item", "longname", "k"};
    private static final String[] RECORD_NAMES = {"r", "s", "t", "u", "v", "wide", "z"};
    private static final String[] PLAIN = {"none", "flag", "int", "long", "real", "text"};

    static final class F {
        String name;
        String type;
        String was;
        String literal;

        F copy() {
            F f = new F();
            f.name = name;
            f.type = type;
            f.was = was;
            f.literal = literal;
            return f;
        }
    }

    static final class R {
        String name;
        List<F> fields = new ArrayList<>();
    }

    final Random random;

    Texts(long seed) {
        random = new Random(seed);
    }

    boolean chance(int ofHundred) {
        return random.nextInt(100) < ofHundred;
    }

    <T> T oneOf(T[] list) {
        return list[random.nextInt(list.length)];
    }

    /** Rings that go deep, lists without bytes, and much that is filled in. */
    private static final String[] PICKED = {
        "plan;record n v int,next either none or n;plan;record n next either n or none,v real;"
            + "plan;record n next either none or n;plan;record n w int was v,v long;",
        "plan;record n v list n,w either list n or none else [];plan;record n v list n;plan;record n w list n else [];",
        "plan;record a x list none,y list list none else [],z list b else [];record b p none else none,q list none else [];"
            + "plan;record a z list b else [],x list none;record b r text else \"abc\",s int else 5,p none else none;"
            + "plan;record a k list none was x,l list none was x,m list none was x,x list none;",
        "plan;record a x list b;record b p c,q c,r int else 1;record c s d,t d;record d u none else none,v none else none;"
            + "plan;record a y int else 3;plan;record a x list b else [];record b r int;",
        "plan;record a x either list int or text or b;record b y either int or flag or a else 7;"
            + "plan;record a x either text or b;record b y real else 1.5;plan;record a x either real or list long;"
            + "plan;record a x list either real or none;plan;record q x b;record b y either real or flag else 0.5;",
        "plan;record a x list b;record b y b,z int else 1;plan;record a x list b;record b z int;plan;record a w int else 4;",
        "plan;record a x list list list flag,y list either text or list flag;"
            + "plan;record a y list either list flag or text or int;plan;record a x list list list flag else [];",
    };

    String plans() {
        if (chance(25)) {
            return oneOf(PICKED);
        }
        List<R> plan = plan();
        int many = 1 + random.nextInt(5);
        StringBuilder text = new StringBuilder();
        for (int k = 0; k < many; k++) {
            String told = tell(plan);
            if (text.length() + told.length() > 1000) {
                break;
            }
            text.append(told);
            plan = chance(15) ? plan() : changed(plan);
        }
        return text.toString();
    }

    private List<R> plan() {
        List<R> plan = new ArrayList<>();
        int many = 1 + random.nextInt(chance(20) ? 6 : 3);
        List<String> names = new ArrayList<>();
        for (int k = 0; k < many; k++) {
            String name = oneOf(RECORD_NAMES);
            while (names.contains(name)) {
                name = oneOf(RECORD_NAMES);
            }
            names.add(name);
        }
        for (String name : names) {
            R r = new R();
            r.name = name;
            plan.add(r);
            int fields = 1 + random.nextInt(chance(10) ? 8 : 4);
            for (int k = 0; k < fields; k++) {
                newField(r, names);
            }
        }
        return plan;
    }

    private void newField(R r, List<String> names) {
        F f = new F();
        f.name = freeName(r);
        if (f.name == null || r.fields.size() == 8) {
            return;
        }
        f.type = type(0, false, names);
        if (chance(15)) {
            f.was = oneOf(FIELD_NAMES);
            f.was = f.was.equals(f.name) ? null : f.was;
        }
        f.literal = chance(45) ? literal(f.type) : null;
        r.fields.add(random.nextInt(r.fields.size() + 1), f);
    }

    private String freeName(R r) {
        for (int k = 0; k < 20; k++) {
            String name = oneOf(FIELD_NAMES);
            boolean free = true;
            for (F f : r.fields) {
                free &= !f.name.equals(name);
            }
            if (free) {
                return name;
            }
        }
        return null;
    }

    private String type(int depth, boolean noEither, List<String> names) {
        int n = random.nextInt(100);
        if (depth < 3 && n < 18) {
            return "list " + type(depth + 1, false, names);
        }
        if (depth < 3 && n < 45 && !noEither) {
            return either(depth, names);
        }
        if (n < 65) {
            return names.get(random.nextInt(names.size()));
        }
        return oneOf(PLAIN);
    }

    private String either(int depth, List<String> names) {
        List<String> branches = new ArrayList<>();
        List<Integer> sorts = new ArrayList<>();
        int many = 2 + random.nextInt(3);
        if (chance(50)) {
            branches.add("none");
            sorts.add(0);
        }
        for (int k = 0; k < 20 && branches.size() < many; k++) {
            String branch = type(depth + 1, true, names);
            int sort = sortOf(branch);
            if (!sorts.contains(sort)) {
                sorts.add(sort);
                branches.add(branches.isEmpty() ? 0 : random.nextInt(branches.size() + 1), branch);
            }
        }
        if (branches.size() < 2) {
            return "either none or int";
        }
        for (int k = 0; k < branches.size() - 1; k++) {
            /* A list of an either ahead of other branches would take them for its own. */
            if (branches.get(k).contains("either")) {
                branches.set(k, "list int");
            }
        }
        return "either " + String.join(" or ", branches);
    }

    private static int sortOf(String type) {
        if (type.startsWith("list ")) {
            return 6;
        }
        for (int k = 0; k < PLAIN.length; k++) {
            if (PLAIN[k].equals(type)) {
                return k;
            }
        }
        return 7;
    }

    private String literal(String type) {
        String own = type.startsWith("either ") ? type.substring(7) : type;
        String first = own.split(" ")[0];
        switch (first) {
            case "none":
                return "none";
            case "flag":
                return chance(50) ? "yes" : "no";
            case "int":
                return intText();
            case "long":
                return longText();
            case "real":
                return realText();
            case "text":
                return quoted();
            case "list":
                return "[]";
            default:
                return null;
        }
    }

    String intText() {
        switch (random.nextInt(6)) {
            case 0:
                return "2147483647";
            case 1:
                return "-2147483648";
            case 2:
                return "-" + random.nextInt(100);
            case 3:
                return "" + random.nextInt();
            default:
                return "" + random.nextInt(70);
        }
    }

    String longText() {
        switch (random.nextInt(5)) {
            case 0:
                return "999999999999999999";
            case 1:
                return "-999999999999999999";
            case 2:
                return "" + random.nextLong() / 100;
            case 3:
                return "2147483648";
            default:
                return intText();
        }
    }

    String realText() {
        if (chance(30)) {
            return longText();
        }
        return (chance(30) ? "-" : "") + (chance(20) ? "0" : longText().replace("-", "")) + "." + random.nextInt(10);
    }

    String quoted() {
        StringBuilder text = new StringBuilder("\"");
        int many = chance(10) ? 12 : random.nextInt(4);
        for (int k = 0; k < many; k++) {
            text.append((char) ('a' + random.nextInt(26)));
        }
        return text.append('"').toString();
    }

    /** A later shape of a plan: renamed, widened, put elsewhere, left out, filled in. */
    private List<R> changed(List<R> plan) {
        List<String> names = new ArrayList<>();
        List<R> later = new ArrayList<>();
        for (R r : plan) {
            R copy = new R();
            copy.name = r.name;
            names.add(r.name);
            for (F f : r.fields) {
                copy.fields.add(f.copy());
            }
            later.add(copy);
        }
        int changes = random.nextInt(5);
        for (int k = 0; k < changes; k++) {
            changeOnce(later.get(random.nextInt(later.size())), names);
        }
        if (chance(10)) {
            String old = later.get(0).name;
            if (!names.contains("q")) {
                rename(later, old, "q");
            }
        }
        if (chance(10) && later.size() > 1) {
            R first = later.remove(0);
            later.add(first);
        }
        return later;
    }

    private static void rename(List<R> plan, String old, String name) {
        for (R r : plan) {
            r.name = r.name.equals(old) ? name : r.name;
            for (F f : r.fields) {
                f.type = (" " + f.type + " ").replace(" " + old + " ", " " + name + " ").trim();
            }
        }
    }

    private void changeOnce(R r, List<String> names) {
        F f = r.fields.get(random.nextInt(r.fields.size()));
        switch (random.nextInt(8)) {
            case 0:
                String fresh = freeName(r);
                if (fresh != null) {
                    f.was = f.name;
                    f.name = fresh;
                }
                break;
            case 1:
                widen(f);
                break;
            case 2:
                r.fields.remove(f);
                r.fields.add(random.nextInt(r.fields.size() + 1), f);
                break;
            case 3:
                if (r.fields.size() > 1) {
                    r.fields.remove(f);
                }
                break;
            case 4:
                newField(r, names);
                break;
            case 5:
                f.type = type(0, false, names);
                f.literal = chance(50) ? literal(f.type) : null;
                break;
            case 6:
                wrap(f, names);
                break;
            default:
                String other = freeName(r);
                if (other != null && r.fields.size() < 8) {
                    F twin = f.copy();
                    twin.name = other;
                    twin.was = f.name;
                    r.fields.add(random.nextInt(r.fields.size() + 1), twin);
                }
                break;
        }
    }

    private void widen(F f) {
        String type = " " + f.type + " ";
        String wider = chance(50) ? type.replaceFirst(" int ", " long ") : type.replaceFirst(" (int|long) ", " real ");
        if (!wider.contains("either")) {
            f.type = wider.trim();
            f.literal = f.literal == null ? null : literal(f.type);
        }
    }

    private void wrap(F f, List<String> names) {
        if (f.type.startsWith("either ") || f.type.contains("either") || f.type.startsWith("list list list")) {
            return;
        }
        String other = oneOf(PLAIN);
        if (sortOf(other) == sortOf(f.type)) {
            return;
        }
        f.type = chance(50) ? "either " + other + " or " + f.type : "either " + f.type + " or " + other;
        f.literal = chance(50) ? literal(f.type) : null;
    }

    private String blank() {
        return chance(4) ? "\n " : " ";
    }

    private String tell(List<R> plan) {
        StringBuilder text = new StringBuilder("plan;");
        for (R r : plan) {
            text.append("record ").append(r.name);
            String between = " ";
            for (F f : r.fields) {
                text.append(between).append(f.name).append(blank()).append(f.type);
                between = ",";
                if (f.was != null) {
                    text.append(" was ").append(f.was);
                }
                if (f.literal != null) {
                    text.append(" else").append(blank()).append(f.literal);
                }
            }
            text.append(';');
        }
        return text.toString();
    }

    /** A value of a type as the model has it; deep ones end as soon as they can. */
    String value(Model.Type type, int depth, int deepest) {
        if (chance(1)) {
            return oneOf(new String[] {"none", "7", "1.5", "[]", "{}", "\"a\"", "yes", "3000000000"});
        }
        switch (type.sort) {
            case 0:
                return "none";
            case 1:
                return chance(50) ? "yes" : "no";
            case 2:
                return intText();
            case 3:
                return longText();
            case 4:
                return realText();
            case 5:
                return quoted();
            case 6:
                return list(type, depth, deepest);
            case 7:
                return fields(type.record, depth, deepest);
            default:
                return value(branch(type, depth, deepest), depth, deepest);
        }
    }

    private Model.Type branch(Model.Type type, int depth, int deepest) {
        Model.Type picked = type.parts.get(random.nextInt(type.parts.size()));
        if (depth < deepest) {
            return chance(40) ? type.parts.get(type.parts.size() - 1) : picked;
        }
        for (Model.Type part : type.parts) {
            if (part.sort < 6) {
                return part;
            }
        }
        return picked;
    }

    private String list(Model.Type type, int depth, int deepest) {
        StringBuilder text = new StringBuilder("[");
        int many = depth >= deepest ? 0 : random.nextInt(4);
        if (chance(type.parts.get(0).sort == 0 ? 30 : 3) && type.parts.get(0).sort < 5) {
            many = 190 + random.nextInt(14);
        }
        for (int k = 0; k < many && text.length() < 990; k++) {
            text.append(k == 0 ? "" : ",").append(many > 100 ? shortest(type.parts.get(0).sort)
                    : value(type.parts.get(0), depth + 1, deepest));
        }
        return text.append(']').toString();
    }

    private static String shortest(int sort) {
        return new String[] {"none", "no", "1", "1", "1"}[sort];
    }

    private String fields(Model.Rec rec, int depth, int deepest) {
        StringBuilder text = new StringBuilder("{");
        if (depth > 40) {
            return "{}";
        }
        List<Model.Field> order = new ArrayList<>(rec.fields);
        if (chance(30)) {
            java.util.Collections.shuffle(order, random);
        }
        String between = "";
        for (Model.Field f : order) {
            if (f.literal != null && (depth >= deepest || chance(40)) || chance(1)) {
                continue;
            }
            String told = value(f.type, depth + 1, deepest);
            text.append(between).append(f.name).append(chance(5) ? " \n" : " ").append(told);
            between = ",";
            if (text.length() > 1000) {
                break;
            }
        }
        return text.append('}').toString();
    }

    /** The text with a little that is wrong in it. */
    String spoilt(String text) {
        StringBuilder s = new StringBuilder(text);
        int times = 1 + random.nextInt(2);
        for (int k = 0; k < times && s.length() > 1; k++) {
            int i = random.nextInt(s.length());
            String[] bits = {" ", ",", ";", "[", "]", "{", "}", "\"", "-", ".", "0", "1", "9", "a", "x", "R", "%",
                " plan ", " record ", " was ", " else ", " list ", " either ", " or ", " none ", " int ", " flag ",
                " text ", " yes ", "1.5", " r ", " a ", ", a int", "; record r a int", "\u00ff", "\t", "list list list ",
                " either int or text or flag or none or real "};
            switch (random.nextInt(4)) {
                case 0:
                    s.deleteCharAt(i);
                    break;
                case 1:
                    s.setLength(i);
                    break;
                default:
                    s.insert(i, oneOf(bits));
                    break;
            }
        }
        return s.length() > 1000 ? s.substring(0, 1000) : s.toString();
    }
}
