import java.io.IOException;
import java.lang.reflect.Field;
import java.lang.reflect.Method;
import java.lang.reflect.Modifier;
import java.nio.file.Files;
import java.nio.file.Path;
import java.util.HashSet;
import java.util.List;
import java.util.Set;
import java.util.regex.Matcher;
import java.util.regex.Pattern;

/** Those of the rules of LANGUAGE.md that can be seen from the class or its text without much ado. */
public final class LanguageTest {
    private static final List<String> RULED_OUT = List.of(
        "->", "::", "\\btry\\b", "\\bcatch\\b", "\\bfinally\\b", "\\bsynchronized\\b", "\\bassert\\b",
        "\\bprotected\\b", "Exact\\(", "\\bSystem\\.", "\\bObjects?\\b", "\\bextends\\b", "\\bhashCode\\b",
        "\\btoString\\b", "\\binstanceof\\b", "\\bNaN\\b", "[^\\x01-\\x7f]");

    private LanguageTest() {
    }

    public static void main(String[] args) throws IOException {
        String text = Files.readString(Path.of("src/main/java/EchoWells.java"));
        for (String sign : RULED_OUT) {
            Check.is("rules: " + sign, Pattern.compile(sign).matcher(text).find(), false);
        }
        imports(text);
        thrown(text);
        wordForWord(text, Files.readString(Path.of("../shared/DOC.md")));
        face(EchoWells.class);
        inside(EchoWells.class.getDeclaredClasses());
        Check.finish();
    }

    private static void imports(String text) {
        Matcher matcher = Pattern.compile("(?m)^(?:import|package) .*$").matcher(text);
        while (matcher.find()) {
            Check.is("rule 4: import", matcher.group(), "import java.util.NoSuchElementException;");
        }
    }

    private static void thrown(String text) {
        Matcher matcher = Pattern.compile("throw (.*)").matcher(text);
        while (matcher.find()) {
            Check.is("rule 6: " + matcher.group(), matcher.group(1).matches("new [A-Z][A-Za-z]*Exception\\(\\);"), true);
        }
    }

    /** Every line of the document's face stands in the class, and nothing else there is public. */
    private static void wordForWord(String text, String document) {
        int lines = 0;
        Matcher matcher = Pattern.compile("(?m)^ *(public .*)[;{]$").matcher(document);
        while (matcher.find()) {
            String line = matcher.group(1).trim();
            Check.is("rule 1: " + line, Pattern.compile("(?m)^ *" + Pattern.quote(line + " {") + "$").matcher(text).find(),
                true);
            lines++;
        }
        Check.is("rule 1: public", text.split("\\bpublic\\b", -1).length - 1, lines);
    }

    private static void face(Class<?> type) {
        Check.is("rule 1: final", Modifier.isFinal(type.getModifiers()), true);
        Set<String> promised = new HashSet<>();
        for (Method method : Model.class.getMethods()) {
            if (method.getDeclaringClass() == Model.class) {
                promised.add(method.getName());
            }
        }
        Set<String> named = new HashSet<>();
        for (Method method : type.getDeclaredMethods()) {
            boolean isPublic = Modifier.isPublic(method.getModifiers());
            Check.is("rule 1: " + method, isPublic, promised.contains(method.getName()));
            Check.is("rule 1: " + method, isPublic || Modifier.isPrivate(method.getModifiers()), true);
            named.add(method.getName());
        }
        Check.is("the methods of the document", named.containsAll(promised), true);
        for (Field field : type.getDeclaredFields()) {
            Check.is("rule 1: " + field, Modifier.isPrivate(field.getModifiers()), true);
        }
        fields(type);
    }

    private static void inside(Class<?>[] types) {
        Check.is("rule 11: classes", types.length <= 12, true);
        for (Class<?> type : types) {
            Check.is("rule 2: " + type, Modifier.isStatic(type.getModifiers()), true);
            Check.is("rule 1: " + type, Modifier.isPublic(type.getModifiers()), false);
            fields(type);
        }
    }

    private static void fields(Class<?> type) {
        int own = 0;
        for (Field field : type.getDeclaredFields()) {
            boolean isStatic = Modifier.isStatic(field.getModifiers());
            Check.is("rule 5: " + field, !isStatic || Modifier.isFinal(field.getModifiers()), true);
            own += isStatic ? 0 : 1;
        }
        Check.is("rule 11: fields of " + type, own <= 20, true);
        for (Method method : type.getDeclaredMethods()) {
            Check.is("rule 11: " + method, method.getParameterCount() <= 7, true);
        }
    }
}
