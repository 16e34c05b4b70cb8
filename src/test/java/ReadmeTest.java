import java.io.IOException;
import java.lang.reflect.InvocationTargetException;
import java.net.URL;
import java.net.URLClassLoader;
import java.nio.charset.StandardCharsets;
import java.nio.file.DirectoryStream;
import java.nio.file.Files;
import java.nio.file.Path;
import java.util.regex.Matcher;
import java.util.regex.Pattern;
import javax.tools.ToolProvider;

/** What README.md says is so: its Java compiles, its calls answer what stands behind them, and it tells each test. */
public final class ReadmeTest {
    private static final Check C = Check.begin();
    private static final Path README = Path.of("README.md");
    private static final Pattern ANSWERED = Pattern.compile("^(.*\\S);\\s+// (-?\\d+)(:.*)?$");

    /** A call that an answer stands behind becomes a question; what makes an object begins anew. */
    private static String asked(String block, int number) {
        StringBuilder all = new StringBuilder("    static void block" + number + "() {\n");
        for (String line : block.split("\n")) {
            Matcher m = ANSWERED.matcher(line);
            if (m.matches()) {
                all.append("due(\"").append(m.group(1).replace("\"", "\\\"")).append("\", ").append(m.group(1)).append(", ").append(m.group(2)).append(");\n");
            } else {
                all.append(line).append('\n');
            }
        }
        return all.append("    }\n").toString();
    }

    private static String program(String readme) {
        StringBuilder all = new StringBuilder("public final class ReadmeCode {\n    public static int asked = 0;\n    public static int wrong = 0;\n"
            + "    static void due(String call, int got, int want) {\n        asked++;\n        if (got != want) {\n            wrong++;\n"
            + "            System.out.println(\"README.md: \" + call + \" answered \" + got + \", told is \" + want);\n        }\n    }\n");
        StringBuilder main = new StringBuilder("    public static void run() {\n");
        Matcher m = Pattern.compile("(?s)```java\n(.*?)```").matcher(readme);
        for (int number = 0; m.find(); number++) {
            if (m.group(1).startsWith("static ")) {
                all.append(m.group(1));
            } else {
                all.append(asked(m.group(1), number));
                main.append("        block").append(number).append("();\n");
            }
        }
        return all.append(main).append("    }\n}\n").toString();
    }

    private static void calls(String readme) throws IOException, ReflectiveOperationException {
        Path dir = Files.createTempDirectory("readme");
        Path source = dir.resolve("ReadmeCode.java");
        Path made = dir.resolve("ReadmeCode.class");
        try {
            Files.writeString(source, program(readme));
            String path = System.getProperty("java.class.path");
            C.due("its Java compiles", ToolProvider.getSystemJavaCompiler().run(null, null, null, "-cp", path, "-d", dir.toString(), source.toString()), 0);
            try (URLClassLoader loader = new URLClassLoader(new URL[] {dir.toUri().toURL()})) {
                Class<?> code = loader.loadClass("ReadmeCode");
                code.getMethod("run").invoke(null);
                C.due("wrong ones among its calls", code.getField("wrong").getInt(null), 0);
                C.due("it has calls", code.getField("asked").getInt(null) > 20 ? 1 : 0, 1);
            }
        } finally {
            Files.deleteIfExists(source);
            Files.deleteIfExists(made);
            Files.deleteIfExists(dir);
        }
    }

    /** Each call of the document, each test of the project. */
    private static void told(String readme) throws IOException {
        Matcher m = Pattern.compile("public int (\\w+)\\(").matcher(Files.readString(Path.of("../shared/DOC.md"), StandardCharsets.UTF_8));
        while (m.find()) {
            C.due("it tells " + m.group(1), readme.contains("`" + m.group(1) + "`") ? 1 : 0, 1);
        }
        try (DirectoryStream<Path> tests = Files.newDirectoryStream(Path.of("src/test/java"), "*Test.java")) {
            for (Path test : tests) {
                String name = test.getFileName().toString().replace(".java", "");
                C.due("it tells " + name, readme.contains("`" + name + "`") ? 1 : 0, 1);
            }
        }
        Matcher named = Pattern.compile("`(\\w+Test)`").matcher(readme);
        while (named.find()) {
            C.due("there is " + named.group(1), Files.exists(Path.of("src/test/java", named.group(1) + ".java")) ? 1 : 0, 1);
        }
    }

    public static void main(String[] args) throws IOException, ReflectiveOperationException {
        String readme = Files.readString(README, StandardCharsets.UTF_8);
        try {
            calls(readme);
        } catch (InvocationTargetException e) {
            throw new IllegalStateException("README.md", e.getCause());
        }
        told(readme);
        C.finish("ReadmeTest");
    }
}
