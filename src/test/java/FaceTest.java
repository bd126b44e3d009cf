import java.lang.reflect.Field;
import java.lang.reflect.Method;
import java.lang.reflect.Modifier;
import java.nio.file.Files;
import java.nio.file.Paths;
import java.util.Arrays;
import java.util.HashSet;
import java.util.Set;
import java.util.TreeSet;
import java.util.regex.Matcher;
import java.util.regex.Pattern;

/** The class's face, its constants, and those rules of LANGUAGE.md that can be read off the source. */
public final class FaceTest {
    private static final String METHODS = "ask/0 change/1 couldBe/0 draw/0 drift/1 far/2 fault/0 feed/1 first/1 game/0 give/1 "
            + "goBack/1 judge/0 keep/1 ladder/3 laid/2 lay/1 letters/2 luck/2 needs/2 right/3 say/3 seed/1 spelt/2 take/1 "
            + "tear/0 told/1 undo/1 word/2 write/2";
    private static final String[] BARRED = {"throw", "throws", "try", "catch", "finally", "synchronized", "assert", "System.out",
        "String.format", "Exact", "->", "::", "Random", "Thread", "protected", "transient", "volatile", "native", "hashCode",
        "toString", "@Override", "package"};

    public static void main(String[] args) throws Exception {
        constants();
        members();
        source(args);
        Check.close();
    }

    private static void constants() {
        Check.due("NONE", LetterTray.NONE, -1);
        Check.due("UNKNOWN", LetterTray.UNKNOWN, -1000000001);
        Check.due("OUTSIDE", LetterTray.OUTSIDE, -1000000002);
        Check.due("NOT", LetterTray.NOT, -1000000003);
        Check.due("FULL", LetterTray.FULL, -1000000004);
    }

    private static void members() {
        Set<String> open = new TreeSet<>();
        for (Method method : LetterTray.class.getDeclaredMethods()) {
            if (!Modifier.isPrivate(method.getModifiers())) {
                open.add(method.getName() + "/" + method.getParameterCount());
                Check.due(method.getName() + " answers an int", method.getReturnType() == int.class ? 1 : 0, 1);
            } else {
                Check.due(method.getName() + " has a name of its own", (" " + METHODS).contains(" " + method.getName() + "/") ? 1 : 0, 0);
            }
            Check.due(method.getName() + " takes at most seven", method.getParameterCount() <= 7 ? 1 : 0, 1);
        }
        Check.due("the methods " + open, String.join(" ", open).equals(METHODS) ? 1 : 0, 1);
        Set<String> constants = new HashSet<>(Arrays.asList("NONE", "UNKNOWN", "OUTSIDE", "NOT", "FULL"));
        for (Field field : LetterTray.class.getDeclaredFields()) {
            boolean hidden = Modifier.isPrivate(field.getModifiers());
            Check.due("the field " + field.getName(), hidden == !constants.contains(field.getName()) ? 1 : 0, 1);
        }
        Check.due("constructors", LetterTray.class.getConstructors().length, 1);
        Check.due("final", Modifier.isFinal(LetterTray.class.getModifiers()) ? 1 : 0, 1);
        for (Class<?> inside : LetterTray.class.getDeclaredClasses()) {
            Check.due(inside + " is static", Modifier.isStatic(inside.getModifiers()) ? 1 : 0, 1);
            for (Method method : inside.getDeclaredMethods()) {
                Check.due(inside + "." + method.getName() + " has a name of its own", (" " + METHODS).contains(" " + method.getName() + "/") ? 1 : 0, 0);
            }
        }
    }

    private static void source(String[] args) throws Exception {
        Check.due("the source is named", args.length, 1);
        if (args.length != 1) {
            return;
        }
        String source = Files.readString(Paths.get(args[0]));
        String code = Pattern.compile("/\\*.*?\\*/|//[^\n]*", Pattern.DOTALL).matcher(source).replaceAll(" ");
        for (String barred : BARRED) {
            String bound = Character.isLetter(barred.charAt(0)) ? "\\b" : "";
            Matcher matcher = Pattern.compile(bound + Pattern.quote(barred) + bound).matcher(code);
            Check.due("the code has '" + barred + "'", matcher.find() ? 1 : 0, 0);
        }
        for (int i = 0; i < source.length(); i++) {
            if (source.charAt(i) > 127) {
                Check.due("a sign beyond 127 at " + i, source.charAt(i), 127);
            }
        }
    }
}
