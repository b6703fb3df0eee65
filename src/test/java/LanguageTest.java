import java.io.IOException;
import java.lang.reflect.Field;
import java.lang.reflect.Method;
import java.lang.reflect.Modifier;
import java.nio.file.Files;
import java.nio.file.Path;
import java.util.ArrayList;
import java.util.List;
import java.util.regex.Matcher;
import java.util.regex.Pattern;

/** The class keeps to ../shared/LANGUAGE.md, as far as its text and its parts tell it. */
public final class LanguageTest {
    private static final Path SOURCE = Path.of("src/main/java/ArchiveMirrors.java");

    /** What the rules leave out, or what this class has no need of, each with the number of its rule. */
    private static final String[][] LEFT_OUT = {
        {"1", "\\bpackage\\b"}, {"1", "\\bprotected\\b"}, {"1", "\\bimport\\b"}, {"2", "->"}, {"2", "::"},
        {"3", "\\bObject\\b"}, {"3", "\\bvar\\b"}, {"3", "Math\\.(sqrt|pow|floor|ceil|round|random)\\b"},
        {"4", "\\w+Exact\\b"}, {"4", "\\bjava\\."}, {"4", "\\bSystem\\.(?!arraycopy\\b)"},
        {"5", "\\bstatic\\s*\\{"}, {"6", "\\b(try|catch|finally|synchronized|assert)\\b"},
        {"6", "\\b(equals|hashCode|toString|getMessage|getClass)\\b"}, {"7", "\\bnull\\s*\\."},
        {"9", "while\\s*\\(\\s*true"}, {"9", "for\\s*\\(\\s*;"}, {"13", "\\b(Thread|Random|Runtime)\\b"},
        {"13", "\\b(native|volatile|transient|strictfp)\\b"},
    };
    private static final String EXCEPTIONS = "(IllegalStateException|IllegalArgumentException|IndexOutOfBoundsException)";

    public static void main(String[] args) throws IOException {
        String source = Files.readString(SOURCE);
        String code = withoutComments(source);
        leftOut(code);
        signs(source);
        exceptions(source);
        noThrowInConstructors(code);
        lengthsOfMethods(code);
        List<Class<?>> classes = classes();
        counts(classes);
        staticFields(classes);
        Check.end();
    }

    /** The source without comments and without what stands in texts, with its lines kept. */
    private static String withoutComments(String source) {
        Matcher found = Pattern.compile("/\\*.*?\\*/|//[^\\n]*|\"[^\"\\n]*\"", Pattern.DOTALL).matcher(source);
        StringBuilder code = new StringBuilder();
        int end = 0;
        while (found.find()) {
            code.append(source, end, found.start());
            code.append(found.group().startsWith("\"") ? "\"\"" : found.group().replaceAll("[^\\n]", ""));
            end = found.end();
        }
        return code.append(source.substring(end)).toString();
    }

    private static void leftOut(String code) {
        for (String[] rule : LEFT_OUT) {
            Matcher found = Pattern.compile(rule[1]).matcher(code);
            if (found.find()) {
                Check.fail("rule " + rule[0] + ": " + found.group());
            }
        }
    }

    private static void signs(String source) {
        for (int i = 0; i < source.length(); i++) {
            if (source.charAt(i) > 126) {
                Check.fail("a sign that is no ASCII at " + i);
            }
        }
    }

    /** Rule 6: throw new E() or throw new E("a written text"). */
    private static void exceptions(String source) {
        Matcher found = Pattern.compile("\\bthrow\\b[^;]*;").matcher(source);
        while (found.find()) {
            if (!found.group().matches("throw new " + EXCEPTIONS + "\\((\"[^\"]*\")?\\);")) {
                Check.fail("rule 6: " + found.group());
            }
        }
    }

    private static void noThrowInConstructors(String code) {
        for (String method : methods(code)) {
            boolean constructor = method.trim().matches("(?s)(public |private )?[A-Z]\\w*\\(.*");
            if (constructor && method.contains("throw ")) {
                Check.fail("rule 6: a throw in a constructor: " + firstLine(method));
            }
        }
    }

    private static String firstLine(String text) {
        return text.trim().lines().findFirst().orElse("");
    }

    /** Each method and constructor, from its head to the brace that has its indentation. */
    private static List<String> methods(String code) {
        List<String> methods = new ArrayList<>();
        Pattern head = Pattern.compile("(?m)^( {4}| {8})(?! |\\}|if|for|while|switch|return)[^;={}]*\\([^;{}]*\\{\\n");
        Matcher found = head.matcher(code);
        int from = 0;
        while (found.find(from)) {
            int end = code.indexOf("\n" + found.group(1) + "}", found.end() - 1);
            methods.add(code.substring(found.start(), Math.max(end, found.end())));
            from = found.end();
        }
        return methods;
    }

    /** Rule 11: methods stay short. */
    private static void lengthsOfMethods(String code) {
        List<String> methods = methods(code);
        if (methods.size() < 80) {
            Check.fail("only " + methods.size() + " methods were found in the text");
        }
        for (String method : methods) {
            if (method.lines().count() > 60) {
                Check.fail("rule 11: " + method.lines().count() + " lines: " + firstLine(method));
            }
        }
    }

    private static List<Class<?>> classes() {
        List<Class<?>> classes = new ArrayList<>();
        classes.add(ArchiveMirrors.class);
        for (int i = 0; i < classes.size(); i++) {
            classes.addAll(List.of(classes.get(i).getDeclaredClasses()));
        }
        return classes;
    }

    /** Rules 1, 2 and 11: few classes, static ones, of few fields, with methods of few parameters. */
    private static void counts(List<Class<?>> classes) {
        if (classes.size() > 12) {
            Check.fail("rule 11: " + classes.size() + " classes");
        }
        for (Class<?> some : classes) {
            int fields = 0;
            for (Field field : some.getDeclaredFields()) {
                fields += Modifier.isStatic(field.getModifiers()) ? 0 : 1;
            }
            if (fields > 20) {
                Check.fail("rule 11: " + fields + " fields in " + some);
            }
            for (Method method : some.getDeclaredMethods()) {
                if (method.getParameterCount() > 7) {
                    Check.fail("rule 11: too many parameters: " + method);
                }
            }
            if (some != ArchiveMirrors.class && !Modifier.isStatic(some.getModifiers())) {
                Check.fail("rule 1: a class inside that is not static: " + some);
            }
        }
    }

    /** Rule 5: static fields are constants. */
    private static void staticFields(List<Class<?>> classes) {
        for (Class<?> some : classes) {
            for (Field field : some.getDeclaredFields()) {
                int modifiers = field.getModifiers();
                boolean constant = Modifier.isFinal(modifiers) && field.getType().isPrimitive();
                if (Modifier.isStatic(modifiers) && !constant) {
                    Check.fail("rule 5: a static field that is no constant: " + field);
                }
            }
        }
    }
}
