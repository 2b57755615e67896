import java.lang.reflect.Method;
import java.lang.reflect.Modifier;
import java.net.URL;
import java.net.URLClassLoader;
import java.nio.file.DirectoryStream;
import java.nio.file.Files;
import java.nio.file.Path;
import java.util.ArrayList;
import java.util.List;
import java.util.Set;
import java.util.TreeSet;
import java.util.regex.Matcher;
import java.util.regex.Pattern;
import javax.tools.JavaCompiler;
import javax.tools.ToolProvider;

/**
 * What README.md shows holds when it is run: its Java is compiled as it stands there, with
 * each answer that is told beside a call held against the one that the call gives; and the
 * tests that it tells of, and the way to run them, are those that there are.
 */
public final class ReadmeTest {
    private static final Pattern SHOWN_CALL = Pattern.compile("(x\\.(\\w+)\\(.*\\));\\s*(?://\\s*(\\S+?):?(?:\\s.*)?)?");
    private static final Pattern OTHER_CALL = Pattern.compile("\\S.*\\bx\\..*|x\\..*");
    private static final Pattern ANSWER = Pattern.compile("-?[0-9]+|NONE|UNKNOWN|OUTSIDE|STATE|FULL");

    private static int wrong = 0;
    private static int checks = 0;

    private static void holds(boolean so, String what) {
        checks++;
        if (!so) {
            wrong++;
            System.out.println("not so: " + what);
        }
    }

    public static void main(String[] args) throws Exception {
        Path project = Path.of(System.getProperty("project", ".")).toAbsolutePath().normalize();
        String readme = Files.readString(project.resolve("README.md"));
        Set<String> shown = new TreeSet<>();
        String program = programOf(linesOf(readme, "java"), shown);
        for (Method method : DebtRooms.class.getDeclaredMethods()) {
            if (Modifier.isPublic(method.getModifiers())) {
                holds(shown.contains(method.getName()), "README.md shows " + method.getName() + "() with its answer");
            }
        }
        run(program);
        theWayToTheTests(linesOf(readme, "sh"), project);
        theTestsTold(readme, project);
        System.out.println(checks + " checks of README.md, " + wrong + " wrong");
        if (wrong != 0) {
            System.exit(1);
        }
    }

    /** The lines of all blocks of a language, one block behind the other. */
    private static List<String> linesOf(String readme, String language) {
        List<String> lines = new ArrayList<>();
        boolean isInside = false;
        for (String line : readme.split("\n")) {
            if (line.startsWith("```")) {
                isInside = !isInside && line.equals("```" + language);
            } else if (isInside) {
                lines.add(line);
            }
        }
        return lines;
    }

    /** A class whose run() does what the lines do, and tells what was not answered as they say. */
    private static String programOf(List<String> lines, Set<String> shown) {
        StringBuilder body = new StringBuilder();
        for (String line : lines) {
            Matcher call = SHOWN_CALL.matcher(line);
            if (!call.matches()) {
                // Only the inside of a loop has nothing to tell.
                holds(!OTHER_CALL.matcher(line).matches(), "an answer stands beside " + line);
                body.append(line).append('\n');
                continue;
            }
            String answer = call.group(3) == null ? "" : call.group(3);
            boolean isTold = ANSWER.matcher(answer).matches();
            holds(isTold, "an answer stands beside " + line);
            if (isTold) {
                shown.add(call.group(2));
                String want = Character.isLetter(answer.charAt(0)) ? "DebtRooms." + answer : answer + "L";
                body.append("due(\"").append(call.group(1).replace("\"", "\\\"")).append("\", ")
                    .append(call.group(1)).append(", ").append(want).append(");\n");
            }
        }
        return "public final class Shown {\n"
            + "private static int wrong = 0;\n"
            + "private static void due(String call, long got, long want) {\n"
            + "if (got != want) { wrong++; System.out.println(call + \" answered \" + got + \", told is \" + want); }\n"
            + "}\n"
            + "public static int run() {\n" + body + "return wrong;\n}\n}\n";
    }

    private static void run(String program) throws Exception {
        JavaCompiler compiler = ToolProvider.getSystemJavaCompiler();
        if (compiler == null) {
            holds(false, "a JDK runs the tests");
            return;
        }
        Path work = Files.createTempDirectory("readme");
        Path source = work.resolve("Shown.java");
        Files.writeString(source, program);
        int failed = compiler.run(null, null, null, "-proc:none", "-cp", System.getProperty("java.class.path"),
            "-d", work.toString(), source.toString());
        holds(failed == 0, "what README.md shows can be compiled");
        if (failed == 0) {
            try (URLClassLoader loader = new URLClassLoader(new URL[] {work.toUri().toURL()})) {
                Object answersWrong = loader.loadClass("Shown").getMethod("run").invoke(null);
                holds(answersWrong.equals(0), "what README.md shows is answered so");
            }
        }
        for (String name : new String[] {"Shown.class", "Shown.java", ""}) {
            Files.deleteIfExists(work.resolve(name));
        }
    }

    /** A clean checkout has just what is shown here, as CI runs it there. */
    private static void theWayToTheTests(List<String> commands, Path project) {
        holds(commands.equals(List.of(".ci/run")), "the tests are run by .ci/run, not by " + commands);
        for (String command : commands) {
            holds(Files.isExecutable(project.resolve(command)), command + " can be run");
        }
    }

    private static void theTestsTold(String readme, Path project) throws Exception {
        Set<String> told = new TreeSet<>();
        Matcher item = Pattern.compile("(?m)^- `(\\w+)`:").matcher(readme);
        while (item.find()) {
            told.add(item.group(1) + ".java");
        }
        Set<String> there = new TreeSet<>();
        try (DirectoryStream<Path> files = Files.newDirectoryStream(project.resolve("src/test/java"), "*.java")) {
            files.forEach(file -> there.add(file.getFileName().toString()));
        }
        holds(told.equals(there), "the tests told are those that there are: " + told + ", " + there);
    }
}
