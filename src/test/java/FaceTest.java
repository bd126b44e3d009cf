import java.lang.reflect.Field;
import java.lang.reflect.Method;
import java.lang.reflect.Modifier;
import java.nio.file.Files;
import java.nio.file.Paths;
import java.util.ArrayList;
import java.util.Arrays;
import java.util.HashSet;
import java.util.List;
import java.util.Set;
import java.util.TreeSet;
import java.util.regex.Matcher;
import java.util.regex.Pattern;

/** The class's face, its constants, and those rules of LANGUAGE.md that can be read off the source. */
public final class FaceTest {
    private static final String METHODS = "ask/0 change/1 couldBe/0 draw/0 drift/1 far/2 fault/0 feed/1 first/1 game/0 give/1 "
            + "goBack/1 judge/0 keep/1 ladder/3 laid/2 lay/1 letters/2 luck/2 needs/2 right/3 say/3 seed/1 spelt/2 take/1 "
            + "tear/0 told/1 undo/1 word/2 write/2";
    private static final String[] BARRED = {"throw", "throws", "try", "catch", "finally", "synchronized", "assert", "System.out",
        "String.format", "Exact", "->", "::", "Random", "Thread", "protected", "transient", "volatile", "native", "hashCode",
        "toString", "@Override", "package"};

    private static final Set<String> LIBRARY = Set.of("java.util", "Arrays.fill", "System.arraycopy", "Math.max", "Math.min",
            "Integer.bitCount");

    public static void main(String[] args) throws Exception {
        constants();
        members();
        fields();
        source(args);
        Check.close();
    }

    private static void constants() {
        Check.due("NONE", LetterTray.NONE, -1);
        Check.due("UNKNOWN", LetterTray.UNKNOWN, -1000000001);
        Check.due("OUTSIDE", LetterTray.OUTSIDE, -1000000002);
        Check.due("NOT", LetterTray.NOT, -1000000003);
        Check.due("FULL", LetterTray.FULL, -1000000004);
    }

    private static void members() {
        Set<String> open = new TreeSet<>();
        for (Method method : LetterTray.class.getDeclaredMethods()) {
            if (!Modifier.isPrivate(method.getModifiers())) {
                open.add(method.getName() + "/" + method.getParameterCount());
                Check.due(method.getName() + " answers an int", method.getReturnType() == int.class ? 1 : 0, 1);
            } else {
                Check.due(method.getName() + " has a name of its own", (" " + METHODS).contains(" " + method.getName() + "/") ? 1 : 0, 0);
            }
            Check.due(method.getName() + " takes at most seven", method.getParameterCount() <= 7 ? 1 : 0, 1);
        }
        Check.due("the methods " + open, String.join(" ", open).equals(METHODS) ? 1 : 0, 1);
        Set<String> constants = new HashSet<>(Arrays.asList("NONE", "UNKNOWN", "OUTSIDE", "NOT", "FULL"));
        for (Field field : LetterTray.class.getDeclaredFields()) {
            boolean hidden = Modifier.isPrivate(field.getModifiers());
            Check.due("the field " + field.getName(), hidden == !constants.contains(field.getName()) ? 1 : 0, 1);
        }
        Check.due("constructors", LetterTray.class.getConstructors().length, 1);
        Check.due("final", Modifier.isFinal(LetterTray.class.getModifiers()) ? 1 : 0, 1);
        for (Class<?> inside : LetterTray.class.getDeclaredClasses()) {
            Check.due(inside + " is static", Modifier.isStatic(inside.getModifiers()) ? 1 : 0, 1);
            for (Method method : inside.getDeclaredMethods()) {
                Check.due(inside + "." + method.getName() + " has a name of its own", (" " + METHODS).contains(" " + method.getName() + "/") ? 1 : 0, 0);
            }
        }
    }

    /** Rules 2, 5 and 11: static state is final, few classes, few fields in each. */
    private static void fields() {
        List<Class<?>> classes = new ArrayList<>(Arrays.asList(LetterTray.class.getDeclaredClasses()));
        classes.add(LetterTray.class);
        Check.due("classes (" + classes.size() + ") are at most twelve", classes.size() <= 12 ? 1 : 0, 1);
        for (Class<?> one : classes) {
            int own = 0;
            for (Field field : one.getDeclaredFields()) {
                boolean isStatic = Modifier.isStatic(field.getModifiers());
                own += isStatic ? 0 : 1;
                Check.due(field + " is final if it is static", !isStatic || Modifier.isFinal(field.getModifiers()) ? 1 : 0, 1);
            }
            Check.due(one + " has at most twenty fields", own <= 20 ? 1 : 0, 1);
            Check.due(one + " has classes inside", one == LetterTray.class ? 0 : one.getDeclaredClasses().length, 0);
        }
    }

    private static void source(String[] args) throws Exception {
        Check.due("the source is named", args.length, 1);
        if (args.length != 1) {
            return;
        }
        String source = Files.readString(Paths.get(args[0]));
        String code = Pattern.compile("/\\*.*?\\*/|//[^\n]*", Pattern.DOTALL).matcher(source).replaceAll(" ");
        for (String barred : BARRED) {
            String bound = Character.isLetter(barred.charAt(0)) ? "\\b" : "";
            Matcher matcher = Pattern.compile(bound + Pattern.quote(barred) + bound).matcher(code);
            Check.due("the code has '" + barred + "'", matcher.find() ? 1 : 0, 0);
        }
        library(code);
        lengths(source);
        for (int i = 0; i < source.length(); i++) {
            if (source.charAt(i) > 127) {
                Check.due("a sign beyond 127 at " + i, source.charAt(i), 127);
            }
        }
    }

    /** Rule 4: what the code has of the library. */
    private static void library(String code) {
        Matcher imports = Pattern.compile("\\bimport ([^;]*);").matcher(code);
        while (imports.find()) {
            Check.due("import " + imports.group(1), imports.group(1).equals("java.util.Arrays") ? 1 : 0, 1);
        }
        Matcher used = Pattern.compile("\\b((?:java|javax)\\.\\w+|(?:System|Arrays|Math|Integer|Long|String|List|Objects)\\.\\w+)").matcher(code);
        while (used.find()) {
            Check.due("the code uses " + used.group(1), LIBRARY.contains(used.group(1)) ? 1 : 0, 1);
        }
    }

    /** Rule 11: a method's first and last line stand alike far in, none other between them does. */
    private static void lengths(String source) {
        String[] lines = source.split("\n");
        for (int start = 0; start < lines.length; start++) {
            Matcher head = Pattern.compile("( +)(?:private|public) .*\\) \\{").matcher(lines[start]);
            if (head.matches()) {
                int end = start;
                while (end < lines.length && !lines[end].equals(head.group(1) + "}")) {
                    end++;
                }
                Check.due("lines of" + lines[start] + " are at most sixty", end - start < 60 ? 1 : 0, 1);
            }
        }
    }
}
