import java.io.ByteArrayOutputStream;
import java.io.PrintStream;
import java.nio.file.Files;
import java.nio.file.Path;
import java.util.ArrayList;
import java.util.List;
import java.util.regex.Matcher;
import java.util.regex.Pattern;
import javax.tools.JavaCompiler;
import javax.tools.ToolProvider;

/** The examples of README.md: compiled as they stand there, each answer told behind // held. */
public class ReadmeTest {
    private static final Pattern CALL = Pattern.compile("((?:x|y)\\.\\w+|tell|read)\\(.*\\);\\s*// (.*)");
    private static final Pattern ANSWER = Pattern.compile("(-?\\d+|true|false|\"[^\"]*\")(:.*)?");
    private static final Told TOLD = new Told();

    private final StringBuilder helpers = new StringBuilder();
    private final StringBuilder run = new StringBuilder();
    private final StringBuilder called = new StringBuilder();
    private int answers = 0;

    public static void main(String[] args) throws Exception {
        ReadmeTest readme = new ReadmeTest();
        readme.take(Files.readAllLines(Path.of("README.md")));
        TOLD.due("README.md has examples with answers", readme.answers >= 80, true);
        readme.everyCallHasItsExample();
        readme.compileAndRun();
        TOLD.end();
    }

    /** Blocks that begin with "static" are helpers, all others are one run. */
    private void take(List<String> lines) {
        List<String> block = null;
        for (String line : lines) {
            if (block == null) {
                block = line.equals("```java") ? new ArrayList<>() : null;
            } else if (line.equals("```")) {
                takeBlock(block);
                block = null;
            } else {
                block.add(line);
            }
        }
        TOLD.due("README.md's last block is closed", block == null, true);
    }

    private void takeBlock(List<String> block) {
        boolean help = block.size() > 0 && block.get(0).startsWith("static ");
        for (String line : block) {
            if (help) {
                helpers.append(line).append('\n');
            } else {
                run.append(held(line)).append('\n');
            }
        }
    }

    /** A call with an answer behind it is held to it; a line that has // but is read as no such call is a fault. */
    private String held(String line) {
        Matcher call = CALL.matcher(line);
        if (!call.matches()) {
            TOLD.due("README.md's line is read: " + line, line.contains("//"), false);
            return line;
        }
        Matcher answer = ANSWER.matcher(call.group(2));
        TOLD.due("README.md tells an answer: " + line, answer.matches(), true);
        if (!answer.matches()) {
            return "";
        }
        answers++;
        called.append(call.group(1)).append('\n');
        String code = line.substring(0, line.lastIndexOf(';', call.start(2)));
        String shown = code.replace("\\", "\\\\").replace("\"", "\\\"");
        return "told.due(\"" + shown + "\", " + code + ", " + answer.group(1) + ");";
    }

    private void everyCallHasItsExample() {
        for (java.lang.reflect.Method m : SignSquares.class.getDeclaredMethods()) {
            if (java.lang.reflect.Modifier.isPublic(m.getModifiers())) {
                TOLD.due("README.md has an example of " + m.getName(), called.toString().contains("." + m.getName() + "\n"),
                        true);
            }
        }
    }

    private void compileAndRun() throws Exception {
        String here = System.getProperty("java.class.path");
        Path file = Path.of(here).resolve("ReadmeExamples.java");
        Files.writeString(file, "final class ReadmeExamples {\n" + helpers + "static void run(Told told) {\n" + run + "}\n}\n");
        JavaCompiler javac = ToolProvider.getSystemJavaCompiler();
        ByteArrayOutputStream said = new ByteArrayOutputStream();
        int code = javac.run(null, said, new PrintStream(said), "-cp", here, "-d", here, file.toString());
        TOLD.due("README.md's examples compile: " + said, code, 0);
        if (code == 0) {
            java.lang.reflect.Method run = Class.forName("ReadmeExamples").getDeclaredMethod("run", Told.class);
            run.setAccessible(true);
            run.invoke(null, TOLD);
        }
    }
}
