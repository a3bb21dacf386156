import java.io.ByteArrayOutputStream;
import java.io.IOException;
import java.io.PrintStream;
import java.lang.reflect.Method;
import java.lang.reflect.Modifier;
import java.net.URL;
import java.net.URLClassLoader;
import java.nio.file.DirectoryStream;
import java.nio.file.Files;
import java.nio.file.Path;
import java.util.Comparator;
import java.util.List;
import java.util.regex.Matcher;
import java.util.regex.Pattern;
import java.util.stream.Stream;
import javax.tools.ToolProvider;

/** README.md: its program does what it says, and no call, refusal or test is left out. */
public final class ReadmeTest {
    private ReadmeTest() {
    }

    public static void main(String[] args) throws IOException, ReflectiveOperationException {
        String page = Files.readString(Path.of("README.md"));
        everyCallIsTold(page);
        everyTestIsNamed(page);
        String told = runs(block(page, "java"));
        Check.due("what the program tells:\n" + told, told.equals(block(page, "text")) ? 1 : 0, 1);
        Check.end("ReadmeTest");
    }

    /** The first block of a language. */
    private static String block(String page, String language) {
        Matcher m = Pattern.compile("(?s)```" + language + "\n(.*?)```").matcher(page);
        boolean found = m.find();
        Check.due("a block of " + language, found ? 1 : 0, 1);
        return found ? m.group(1) : "";
    }

    private static void everyCallIsTold(String page) {
        for (Method m : IfYouWill.class.getDeclaredMethods()) {
            if (Modifier.isPublic(m.getModifiers())) {
                Matcher row = Pattern.compile("(?m)^\\| `" + m.getName() + "\\(([^)]*)\\)` \\| .+ \\|$").matcher(page);
                boolean found = row.find();
                Check.due("a row for " + m.getName(), found ? 1 : 0, 1);
                String names = found ? row.group(1) : "";
                Check.due("arguments of " + m.getName(), names.isEmpty() ? 0 : names.split(", ").length, m.getParameterCount());
            }
        }
        for (String refusal : List.of("NONE", "UNKNOWN", "OUTSIDE", "NOT", "FULL")) {
            Check.due(refusal + " is told", page.contains("`" + refusal + "`") ? 1 : 0, 1);
        }
    }

    private static void everyTestIsNamed(String page) throws IOException {
        try (DirectoryStream<Path> files = Files.newDirectoryStream(Path.of("src/test/java"), "*Test.java")) {
            for (Path file : files) {
                String name = file.getFileName().toString().replace(".java", "");
                boolean named = name.startsWith("Promise") || page.contains("`" + name + "`");
                Check.due(name + " is named", named ? 1 : 0, 1);
            }
        }
        Matcher m = Pattern.compile("`([A-Z]\\w+Test)`").matcher(page);
        while (m.find()) {
            Check.due(m.group(1) + " is there", Files.exists(Path.of("src/test/java", m.group(1) + ".java")) ? 1 : 0, 1);
        }
    }

    /** Compiles the program and runs it: what it prints. */
    private static String runs(String program) throws IOException, ReflectiveOperationException {
        Path work = Files.createTempDirectory("readme");
        Path source = Files.writeString(work.resolve("Dyke.java"), program);
        int code = ToolProvider.getSystemJavaCompiler().run(null, null, null, "-d", work.toString(),
                "src/main/java/IfYouWill.java", source.toString());
        Check.due("it compiles", code, 0);
        PrintStream before = System.out;
        ByteArrayOutputStream told = new ByteArrayOutputStream();
        try (URLClassLoader loader = new URLClassLoader(new URL[] {work.toUri().toURL()}, null)) {
            System.setOut(new PrintStream(told, true));
            loader.loadClass("Dyke").getMethod("main", String[].class).invoke(null, (Object) new String[0]);
        } finally {
            System.setOut(before);
            try (Stream<Path> made = Files.walk(work)) {
                made.sorted(Comparator.reverseOrder()).forEach(path -> path.toFile().delete());
            }
        }
        return told.toString().replace(System.lineSeparator(), "\n");
    }
}
