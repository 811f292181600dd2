import java.io.ByteArrayOutputStream;
import java.io.File;
import java.io.PrintStream;
import java.lang.reflect.Method;
import java.lang.reflect.Modifier;
import java.net.URL;
import java.net.URLClassLoader;
import java.nio.file.Files;
import java.nio.file.Path;
import java.util.ArrayList;
import java.util.List;
import java.util.regex.Matcher;
import java.util.regex.Pattern;
import javax.tools.ToolProvider;

/** That README.md tells what is so: its example prints what stands there, and its table has every call. */
public final class ReadmeTest {
    private static final String FENCE = "```";

    public static void main(String[] args) throws Exception {
        String page = Files.readString(Path.of("README.md"));
        example(page);
        calls(page);
        tests(page);
        commands(page);
        Probe.finish("ReadmeTest");
    }

    private static void must(String what, boolean holds) {
        Probe.due(what, 1, holds ? 1 : 0);
    }

    /** What stands between a fence of that kind and the next one. */
    private static String block(String page, String kind) {
        String open = FENCE + kind + "\n";
        int from = page.indexOf(open);
        must("a block of " + kind, from >= 0);
        return from < 0 ? "" : page.substring(from + open.length(), page.indexOf(FENCE, from + open.length()));
    }

    private static void example(String page) throws Exception {
        Path place = Files.createTempDirectory("readme");
        Path source = place.resolve("Example.java");
        Files.writeString(source, block(page, "java"));
        int wrong = ToolProvider.getSystemJavaCompiler().run(null, null, null, "-d", place.toString(),
                "-cp", System.getProperty("java.class.path"), source.toString());
        must("the example compiles", wrong == 0);
        if (wrong == 0) {
            String[] printed = printedBy(place).split("\n");
            String[] told = block(page, "text").split("\n");
            Probe.due("lines that the example prints", told.length, printed.length);
            for (int k = 0; k < told.length && k < printed.length; k++) {
                must("the example prints '" + printed[k] + "' where '" + told[k] + "' stands", printed[k].equals(told[k]));
            }
        }
        for (File file : place.toFile().listFiles()) {
            file.delete();
        }
        place.toFile().delete();
    }

    private static String printedBy(Path place) throws Exception {
        PrintStream out = System.out;
        ByteArrayOutputStream printed = new ByteArrayOutputStream();
        try (URLClassLoader loader = new URLClassLoader(new URL[] {place.toUri().toURL()})) {
            System.setOut(new PrintStream(printed, true));
            loader.loadClass("Example").getMethod("main", String[].class).invoke(null, (Object) new String[0]);
        } finally {
            System.setOut(out);
        }
        return printed.toString().replace("\r", "");
    }

    private static void calls(String page) {
        List<String> told = new ArrayList<>();
        Matcher rows = Pattern.compile("^\\| `(\\w+)\\(([^)]*)\\)` \\| \\S", Pattern.MULTILINE).matcher(page);
        while (rows.find()) {
            told.add(rows.group(1) + " " + rows.group(2).split(",").length);
        }
        int calls = 0;
        for (Method m : ShapeReader.class.getDeclaredMethods()) {
            if (Modifier.isPublic(m.getModifiers())) {
                calls++;
                must("the table has " + m.getName(), told.contains(m.getName() + " " + m.getParameterCount()));
            }
        }
        Probe.due("rows of the table", calls, told.size());
    }

    private static void tests(String page) {
        for (String file : new File("src/test/java").list()) {
            String name = file.replace(".java", "");
            boolean ofAPromise = name.matches("Promise\\d\\d\\w+Test");
            must("the page names " + name, ofAPromise || page.contains("`" + name + "`"));
        }
    }

    private static void commands(String page) {
        for (String word : block(page, "sh").split("\\s+")) {
            if (word.endsWith(".java") && !word.contains("*")) {
                must(word + " is there", new File(word).exists());
            }
            if (word.endsWith("Test")) {
                must(word + " is there", new File("src/test/java/" + word + ".java").exists());
            }
        }
    }
}
