import java.lang.reflect.Constructor;
import java.lang.reflect.Field;
import java.lang.reflect.Method;
import java.lang.reflect.Modifier;
import java.nio.file.Files;
import java.nio.file.Path;
import java.util.Arrays;
import java.util.List;
import java.util.NoSuchElementException;
import java.util.Set;
import java.util.TreeSet;

/** The face that the document tells, and those rules of LANGUAGE.md that can be seen from outside. */
public final class LanguageTest {
    private static final List<String> FACE = Arrays.asList(
            "int alike(int,int,int)", "int byteAt(int,int)", "int convert(int,int,int)", "int count(int)", "int cut(int,int)",
            "int failure(int)", "int failureStep(int)", "int feed(int,int,int,int,int)", "int field(int,int,int,int)",
            "int kept(int)", "int letter(int,int)", "int matches(int,int)", "int message(int,int)", "int miss(int,int,int,int)",
            "int missStep(int,int,int,int)", "int node(int,int)", "int plans(int)", "int read(int,int)", "int readers(int,int)",
            "int record(int,int,int)", "int spoil(int,int,int)", "int write(int,int,int)", "long value(int)");

    private static final Set<String> THROWING = Set.of("byteAt", "node", "value", "letter");

    public static void main(String[] args) throws Exception {
        face();
        inside();
        source();
        Probe.finish("LanguageTest");
    }

    private static void must(String what, boolean holds) {
        Probe.due(what, 1, holds ? 1 : 0);
    }

    private static void face() throws Exception {
        Class<ShapeReader> c = ShapeReader.class;
        Set<String> seen = new TreeSet<>();
        Set<String> names = new TreeSet<>();
        for (Method m : c.getDeclaredMethods()) {
            if (Modifier.isPublic(m.getModifiers())) {
                seen.add(told(m));
                names.add(m.getName());
            }
        }
        must("the face is " + seen, seen.equals(new TreeSet<>(FACE)));
        must("the class is public and final", Modifier.isPublic(c.getModifiers()) && Modifier.isFinal(c.getModifiers()));
        must("NONE is -1", c.getField("NONE").getInt(null) == -1);
        must("NONE is a constant", c.getField("NONE").getModifiers() == (Modifier.PUBLIC | Modifier.STATIC | Modifier.FINAL)
                && c.getField("NONE").getType() == int.class);
        must("it has no package and nothing above it", c.getPackageName().isEmpty() && c.getSuperclass() == Object.class
                && c.getInterfaces().length == 0);
        for (Method m : c.getDeclaredMethods()) {
            if (Modifier.isPublic(m.getModifiers())) {
                Class<?>[] thrown = m.getExceptionTypes();
                boolean throwsOne = thrown.length == 1 && thrown[0] == NoSuchElementException.class;
                must(m + " throws what the face tells", THROWING.contains(m.getName()) ? throwsOne : thrown.length == 0);
                must(m + " is of the object", !Modifier.isStatic(m.getModifiers()) && !m.isVarArgs());
            }
            boolean hidden = Modifier.isPrivate(m.getModifiers());
            must(m + " is private or of the face", m.isSynthetic() || hidden || FACE.contains(told(m)));
            must(m + " has a name of its own", !hidden || !names.contains(m.getName()));
        }
        for (Field f : c.getDeclaredFields()) {
            must(f + " is private or NONE", Modifier.isPrivate(f.getModifiers()) || f.getName().equals("NONE"));
        }
        for (Constructor<?> k : c.getDeclaredConstructors()) {
            must(k + " is the one", Modifier.isPublic(k.getModifiers()) && k.getParameterCount() == 0);
        }
    }

    private static String told(Method m) {
        StringBuilder text = new StringBuilder(m.getReturnType() + " " + m.getName() + "(");
        for (Class<?> p : m.getParameterTypes()) {
            text.append(text.charAt(text.length() - 1) == '(' ? "" : ",").append(p);
        }
        return text.append(')').toString();
    }

    private static void inside() {
        Class<?>[] classes = ShapeReader.class.getDeclaredClasses();
        must("some twelve classes", classes.length <= 12);
        for (Class<?> c : classes) {
            must(c + " is private and static", Modifier.isPrivate(c.getModifiers()) && Modifier.isStatic(c.getModifiers()));
            int fields = 0;
            for (Field f : c.getDeclaredFields()) {
                boolean fixed = Modifier.isStatic(f.getModifiers());
                fields += fixed ? 0 : 1;
                must(f + " is no static state", !fixed || Modifier.isFinal(f.getModifiers()));
            }
            must(c + " has some twenty fields", fields <= 20);
            for (Method m : c.getDeclaredMethods()) {
                must(m + " has seven parameters at most", m.getParameterCount() <= 7);
                must(m + " bears no name of the face", !FACE.stream().anyMatch(f -> f.contains(" " + m.getName() + "(")));
            }
        }
    }

    private static void source() throws Exception {
        String text = Files.readString(Path.of("src/main/java/ShapeReader.java"));
        String[] never = {"->", "::", "try", "catch", "finally", "synchronized", "assert", "Double", "Float", "Exact",
            "package ", "static {", "System.out", "Object", "hashCode", "equals", "toString", "lambda", "var "};
        String code = text.replaceAll("(?s)/\\*.*?\\*/", "");
        for (String word : never) {
            must("no '" + word + "'", !code.contains(word));
        }
        int start = 0;
        String[] lines = text.split("\n");
        for (int i = 0; i < lines.length; i++) {
            must("line " + (i + 1) + " has 120 signs at most, all of them plain",
                    lines[i].length() <= 120 && lines[i].chars().allMatch(c -> c >= 32 && c < 127));
            if (lines[i].matches(" {4}( {4})?[a-z].*\\) (throws \\w+ )?\\{")) {
                start = i;
            }
            if (lines[i].matches(" {4}( {4})?\\}")) {
                must("the method that ends in line " + (i + 1) + " is short", i - start <= 60 || lines[i].startsWith("    }"));
            }
            if (lines[i].startsWith("import ")) {
                must(lines[i], lines[i].equals("import java.util.Arrays;")
                        || lines[i].equals("import java.util.NoSuchElementException;"));
            }
        }
    }
}
