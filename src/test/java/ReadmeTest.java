import java.net.URL;
import java.net.URLClassLoader;
import java.nio.file.Files;
import java.nio.file.Path;
import java.util.ArrayList;
import java.util.List;
import java.util.regex.Matcher;
import java.util.regex.Pattern;
import javax.tools.ToolProvider;

/** Runs what README.md shows: each call with a number behind it has to answer that. Run from the project's folder. */
public final class ReadmeTest {
    private static final Pattern BLOCK = Pattern.compile("(?s)```java\n(.*?)```");
    private static final Pattern ANSWERED = Pattern.compile("(x\\.\\w+\\([^;]*\\)); +// (-?\\d+)\\b.*");

    private static List<String> blocks() throws Exception {
        List<String> blocks = new ArrayList<>();
        Matcher block = BLOCK.matcher(Files.readString(Path.of("README.md")));
        while (block.find()) {
            blocks.add(block.group(1));
        }
        return blocks;
    }

    private static String program(String functions, String lines) {
        StringBuilder t = new StringBuilder("public final class Readme {\n").append(functions);
        t.append("static int asked, wrong;\nstatic void due(String call, int want, int got) {\nasked++;\n");
        t.append("if (got != want) { wrong++; System.out.println(\"README: \" + call + \" answered \" + got); }\n}\n");
        t.append("public static int[] run() {\n");
        for (String line : lines.split("\n")) {
            Matcher call = ANSWERED.matcher(line);
            t.append(call.matches() ? "due(\"" + call.group(1) + "\", " + call.group(2) + ", " + call.group(1) + ");" : line);
            t.append('\n');
        }
        return t.append("return new int[] {asked, wrong};\n}\n}\n").toString();
    }

    public static void main(String[] args) throws Exception {
        List<String> blocks = blocks();
        Path folder = Files.createDirectories(Path.of("build/readme"));
        Path file = folder.resolve("Readme.java");
        Files.writeString(file, program(blocks.get(0), blocks.get(1)));
        int compiled = ToolProvider.getSystemJavaCompiler().run(null, null, null, "-cp", "build/main", "-d",
            folder.toString(), file.toString());
        if (compiled != 0) {
            System.out.println("ReadmeTest: the example does not compile");
            System.exit(1);
        }
        try (URLClassLoader loader = new URLClassLoader(new URL[] {folder.toUri().toURL()})) {
            int[] counted = (int[]) loader.loadClass("Readme").getMethod("run").invoke(null);
            System.out.println("ReadmeTest: " + (counted[0] - counted[1]) + " answers as due, " + counted[1] + " not");
            if (counted[0] == 0 || counted[1] != 0) {
                System.exit(1);
            }
        }
    }
}
