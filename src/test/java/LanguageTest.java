import java.io.IOException;
import java.lang.reflect.Constructor;
import java.lang.reflect.Executable;
import java.lang.reflect.Field;
import java.lang.reflect.Method;
import java.lang.reflect.Modifier;
import java.nio.file.Files;
import java.nio.file.Path;
import java.util.ArrayList;
import java.util.List;
import java.util.Set;
import java.util.TreeSet;
import java.util.regex.Matcher;
import java.util.regex.Pattern;

/** The rules of LANGUAGE.md that can be looked up in the source or in the class. The source is the argument. */
final class LanguageTest {
    private static final Check check = new Check("LanguageTest");
    private static final Set<String> FACE = Set.of("person", "rack", "feed", "end", "text", "fault", "by", "swap", "turn",
            "prop", "year", "played", "ages", "undo", "of", "seat", "hears", "is", "book", "foretold", "still", "upright",
            "byTurns", "seats", "ragged", "word", "page", "line", "narrowest", "heard", "meant", "listen", "bar", "props",
            "likely", "first", "median", "spread", "quarrel", "said", "whose", "straight", "steepest", "ledger", "image",
            "back", "about");

    public static void main(String[] args) throws IOException {
        theFace();
        List<Class<?>> classes = new ArrayList<>(List.of(ItalicsLean.class.getDeclaredClasses()));
        check.due(0, "at most twelve classes", classes.size() <= 11, true);
        for (Class<?> inside : classes) {
            check.due(0, inside + " is static", Modifier.isStatic(inside.getModifiers()), true);
            check.due(0, inside + " is not public", Modifier.isPublic(inside.getModifiers()), false);
            for (Method method : inside.getDeclaredMethods()) {
                check.due(0, method + " bears a name of the face", FACE.contains(method.getName()), false);
            }
        }
        classes.add(ItalicsLean.class);
        for (Class<?> one : classes) {
            members(one);
        }
        if (args.length > 0) {
            source(Files.readString(Path.of(args[0])));
        }
        check.finish();
    }

    private static void theFace() {
        Class<?> lean = ItalicsLean.class;
        check.due(0, "public and final", Modifier.isPublic(lean.getModifiers()) && Modifier.isFinal(lean.getModifiers()), true);
        Set<String> names = new TreeSet<>();
        for (Method method : lean.getDeclaredMethods()) {
            if (Modifier.isPublic(method.getModifiers())) {
                check.due(0, method + " stands once", names.add(method.getName()), true);
            } else {
                check.due(0, method + " is private", Modifier.isPrivate(method.getModifiers()) || method.isSynthetic(), true);
                check.due(0, method + " bears a name of the face", FACE.contains(method.getName()), false);
            }
        }
        check.due(0, "the face is whole", names.equals(new TreeSet<>(FACE)), true);
        check.due(0, "constructors", lean.getDeclaredConstructors().length, 1);
        for (Field field : lean.getDeclaredFields()) {
            boolean isNone = field.getName().equals("NONE");
            check.due(0, field + " is hidden, but for NONE", Modifier.isPublic(field.getModifiers()), isNone);
            check.due(0, field + " is private, but for NONE", Modifier.isPrivate(field.getModifiers()), !isNone);
        }
    }

    private static void members(Class<?> one) {
        List<Executable> all = new ArrayList<>(List.of(one.getDeclaredMethods()));
        for (Constructor<?> constructor : one.getDeclaredConstructors()) {
            all.add(constructor);
        }
        for (Executable method : all) {
            check.due(0, method + " takes at most seven", method.getParameterCount() <= 7, true);
        }
        int fields = 0;
        for (Field field : one.getDeclaredFields()) {
            if (Modifier.isStatic(field.getModifiers())) {
                check.due(0, field + " is final", Modifier.isFinal(field.getModifiers()), true);
            } else {
                fields++;
            }
        }
        check.due(0, one + " has some twenty fields", fields <= 20, true);
    }

    private static void source(String whole) {
        String code = whole.replaceAll("(?s)/\\*.*?\\*/", "").replaceAll("//[^\\n]*", "");
        for (String banned : new String[] {"throw", "throws", "try", "catch", "finally", "synchronized", "assert", "import",
            "package", "protected", "volatile", "double", "float", "hashCode", "toString", "Object", "Exception", "enum",
            "instanceof", "new String", "List", "var"}) {
            check.due(0, "has " + banned, Pattern.compile("\\b" + banned + "\\b").matcher(code).find(), false);
        }
        for (String banned : new String[] {"->", "::", "Exact(", "\" +", "+ \"", "@"}) {
            check.due(0, "has " + banned, code.contains(banned), false);
        }
        for (int i = 0; i < whole.length(); i++) {
            check.due(0, "the sign at " + i, whole.charAt(i) < 128, true);
        }
        Matcher libraries = Pattern.compile("\\b(Math|Integer|Long|System|String|Arrays)\\.(\\w+)").matcher(code);
        Set<String> allowed = Set.of("Math.min", "Math.max", "Math.abs", "Integer.bitCount", "System.arraycopy");
        while (libraries.find()) {
            check.due(0, "uses " + libraries.group(), allowed.contains(libraries.group()), true);
        }
        methodsAreShort(whole);
    }

    private static void methodsAreShort(String whole) {
        String[] lines = whole.split("\n");
        for (int i = 0; i < lines.length; i++) {
            Matcher head = Pattern.compile("^( {4}| {8})[a-zA-Z][^;=]*\\(.*\\{$").matcher(lines[i]);
            if (head.find() && !lines[i].contains("if (") && !lines[i].contains("for (") && !lines[i].contains("while (")) {
                int end = i;
                while (!lines[end].equals(head.group(1) + "}")) {
                    end++;
                }
                check.due(0, lines[i].trim() + " is short", end - i + 1 <= 60, true);
            }
        }
    }
}
