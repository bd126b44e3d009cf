import java.io.ByteArrayOutputStream;
import java.lang.invoke.MethodHandles;
import java.lang.reflect.Method;
import java.lang.reflect.Modifier;
import java.nio.file.Files;
import java.nio.file.Path;
import java.nio.file.Paths;
import java.util.ArrayList;
import java.util.List;
import java.util.Set;
import java.util.TreeSet;
import java.util.regex.Matcher;
import java.util.regex.Pattern;
import java.util.stream.Stream;
import javax.tools.ToolProvider;

/**
 * README.md as it stands: its rows of code are compiled and run as one program, each answer that a row names is due; the
 * calls and the tests that it tells of are those that there are.
 */
public final class ReadmeTest {
    private static final Pattern BLOCK = Pattern.compile("^```(\\w+)\n(.*?)^```$", Pattern.MULTILINE | Pattern.DOTALL);
    private static final Pattern CALL = Pattern.compile("tray\\.(\\w+)\\(.*\\);.*");
    private static final Pattern ANSWERED =
            Pattern.compile("(tray\\.\\w+\\(.*?\\)); +// (-?\\d+|NONE|UNKNOWN|OUTSIDE|NOT|FULL)(?::? .*)?");

    public static void main(String[] args) throws Exception {
        Check.due("the source is named", args.length, 1);
        if (args.length == 1) {
            Path root = Paths.get(args[0]).toAbsolutePath().getParent().resolve("../../..").normalize();
            String page = Files.readString(root.resolve("README.md"));
            runRows(blocks(page, "java"));
            namesCalls(page);
            namesRun(blocks(page, "sh"), root);
            namesTests(page, root);
        }
        Check.close();
    }

    private static List<String> blocks(String page, String kind) {
        List<String> blocks = new ArrayList<>();
        Matcher matcher = BLOCK.matcher(page);
        while (matcher.find()) {
            if (matcher.group(1).equals(kind)) {
                blocks.add(matcher.group(2));
            }
        }
        return blocks;
    }

    /** The rows as a class: a row with an answer becomes a check of it, the others stay as they stand. */
    private static void runRows(List<String> blocks) throws Exception {
        StringBuilder code = new StringBuilder("final class ReadmeRows {\n    public static void run() {\n");
        int answers = 0;
        for (String block : blocks) {
            for (String row : block.split("\n")) {
                Matcher answered = ANSWERED.matcher(row);
                if (answered.matches()) {
                    answers++;
                    code.append(checkOf(answered.group(1), answered.group(2)));
                } else {
                    Check.due("README.md: '" + row + "' is a call without an answer", CALL.matcher(row).matches() ? 1 : 0, 0);
                    code.append(row).append('\n');
                }
            }
        }
        Check.due("README.md shows calls with answers", answers > 0 ? 1 : 0, 1);
        runClass(code.append("    }\n}\n").toString());
    }

    private static String checkOf(String call, String answer) {
        String due = Character.isLetter(answer.charAt(0)) ? "LetterTray." + answer : answer;
        return "Check.due(\"README.md: " + call + "\", " + call + ", " + due + ");\n";
    }

    private static void runClass(String code) throws Exception {
        Path folder = Files.createTempDirectory("readme");
        try {
            Path file = folder.resolve("ReadmeRows.java");
            Files.writeString(file, code);
            ByteArrayOutputStream faults = new ByteArrayOutputStream();
            int flaw = ToolProvider.getSystemJavaCompiler().run(null, faults, faults, "--release", "17",
                    "-cp", System.getProperty("java.class.path"), "-d", folder.toString(), file.toString());
            Check.due("README.md's rows as a program: " + faults, flaw, 0);
            if (flaw == 0) {
                rowsIn(folder).getMethod("run").invoke(null);
            }
        } finally {
            try (Stream<Path> files = Files.list(folder)) {
                for (Path file : files.toList()) {
                    Files.delete(file);
                }
            }
            Files.delete(folder);
        }
    }

    /** By this test's own loader: a class of another one could not use Check, which is visible in its package alone. */
    private static Class<?> rowsIn(Path folder) throws Exception {
        byte[] bytes = Files.readAllBytes(folder.resolve("ReadmeRows.class"));
        return MethodHandles.lookup().defineClass(bytes);
    }

    private static void namesCalls(String page) {
        Set<String> face = new TreeSet<>();
        for (Method method : LetterTray.class.getDeclaredMethods()) {
            if (Modifier.isPublic(method.getModifiers())) {
                face.add(method.getName() + "/" + method.getParameterCount());
            }
        }
        Set<String> listed = new TreeSet<>();
        Matcher call = Pattern.compile("`(\\w+)\\(([\\w, ]*)\\)`").matcher(page);
        while (call.find()) {
            int count = call.group(2).isEmpty() ? 0 : call.group(2).split(",").length;
            listed.add(call.group(1) + "/" + count);
        }
        Check.due("README.md's calls " + listed + ", the face's " + face, listed.equals(face) ? 1 : 0, 1);
    }

    private static void namesRun(List<String> blocks, Path root) {
        Check.due("README.md's ways to run the tests", blocks.size(), 1);
        Check.due("README.md runs .ci/run", blocks.contains("bash .ci/run\n") ? 1 : 0, 1);
        Check.due(".ci/run can be run", Files.isExecutable(root.resolve(".ci/run")) ? 1 : 0, 1);
    }

    private static void namesTests(String page, Path root) throws Exception {
        Set<String> there = new TreeSet<>();
        try (Stream<Path> files = Files.list(root.resolve("src/test/java"))) {
            files.map(file -> file.getFileName().toString()).filter(name -> name.endsWith("Test.java"))
                    .forEach(name -> there.add(name.replace(".java", "")));
        }
        Set<String> listed = new TreeSet<>();
        Matcher row = Pattern.compile("^\\| (\\w+Test) \\|", Pattern.MULTILINE).matcher(page);
        while (row.find()) {
            listed.add(row.group(1));
        }
        Check.due("README.md's tests " + listed + ", those that there are " + there, listed.equals(there) ? 1 : 0, 1);
    }
}
