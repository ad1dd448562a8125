import java.io.IOException;
import java.lang.reflect.Field;
import java.lang.reflect.Method;
import java.lang.reflect.Modifier;
import java.nio.file.Files;
import java.nio.file.Path;
import java.util.ArrayList;
import java.util.HashSet;
import java.util.List;
import java.util.Set;
import java.util.regex.Matcher;
import java.util.regex.Pattern;

/** What can be seen of ../shared/LANGUAGE.md in the text and the members of the class; each call is named by its rule. */
public final class LanguageTest {
    private static final Due DUE = new Due("LanguageTest");
    private static final Path FILE = Path.of("src/main/java/SeepingRock.java");
    /** Words that the rules rule out, or that a class without exceptions, texts and lists has no use for. */
    private static final String[] WORDS = {"import", "package", "throw", "throws", "try", "catch", "finally",
        "synchronized", "assert", "volatile", "transient", "native", "protected", "instanceof", "record", "static \\{",
        "->", "::", "@", "NaN", "Thread", "Random", "nanoTime", "currentTimeMillis", "getenv", "File"};
    private static final Set<String> LIBRARY = Set.of("System.arraycopy", "Math.max", "Math.min");
    private static final int MOST_LINES = 60;
    private static final int MOST_PARAMETERS = 7;
    private static final int MOST_FIELDS = 20;
    private static final int MOST_CLASSES = 12;

    public static void main(String[] args) throws IOException {
        String text = Files.readString(FILE);
        String code = text.replaceAll("(?s)/\\*.*?\\*/", "").replaceAll("//[^\n]*", "");
        signs(text);
        words(code);
        library(code);
        DUE.is("rule 6 and 7: casts to own classes", count(code, "\\((?:Rock|Core|Flow|Ways)\\)"), 0);
        madeWithTheObject(code);
        lengths(code);
        List<Class<?>> classes = new ArrayList<>(List.of(SeepingRock.class.getDeclaredClasses()));
        classes.add(SeepingRock.class);
        DUE.isTrue("rule 11: classes", classes.size() <= MOST_CLASSES);
        for (Class<?> c : classes) {
            fields(c);
            methods(c);
        }
        DUE.end();
    }

    private static int count(String code, String pattern) {
        return (int) Pattern.compile(pattern).matcher(code).results().count();
    }

    private static void signs(String text) {
        DUE.isTrue("rule 4: signs are 1 to 127", text.chars().allMatch(c -> c >= 1 && c <= 127));
    }

    private static void words(String code) {
        for (String word : WORDS) {
            String alone = word.matches("\\w+") ? "\\b" + word + "\\b" : word;
            DUE.is("rules 2 to 6 and 13: " + word, count(code, alone), 0);
        }
        DUE.is("rule 1: classes that can be seen", count(code, "public (?:\\w+ )*(?:class|interface|enum)\\b"), 1);
    }

    private static void library(String code) {
        Matcher used = Pattern.compile("\\b[A-Z][a-z]\\w*\\.\\w+").matcher(code);
        while (used.find()) {
            DUE.isTrue("rule 4: " + used.group(), LIBRARY.contains(used.group()));
        }
        DUE.is("rule 3: other types", count(code, "\\b(?:Object|String|Integer|Long|Double|Float|List|ArrayList|var)\\b"), 0);
    }

    /** Rows are made as fields, and CORES in the constructor: no call makes one. */
    private static void madeWithTheObject(String code) {
        for (String line : code.split("\n")) {
            if (line.matches(".*\\bnew\\b.*")) {
                String made = line.trim();
                boolean field = made.matches("(?:private )?final [\\w\\[\\]]+ \\w+ = new .*;");
                DUE.isTrue("rule 12: " + made, field || made.equals("cores[c] = new Core();"));
            }
        }
        DUE.is("rule 12: clones", count(code, "\\bclone\\b"), 0);
    }

    private static void lengths(String code) {
        String head = "";
        int begun = 0;
        String[] lines = code.split("\n");
        for (int k = 0; k < lines.length; k++) {
            if (lines[k].matches(" {4,8}(?! )[^=;]*\\) \\{")) {
                head = lines[k].trim();
                begun = k;
            } else if (lines[k].matches(" {4,8}\\}") && !head.isEmpty()) {
                DUE.isTrue("rule 11: lines of " + head, k - begun <= MOST_LINES);
                head = "";
            }
        }
    }

    private static void fields(Class<?> c) {
        int own = 0;
        for (Field f : c.getDeclaredFields()) {
            if (Modifier.isStatic(f.getModifiers())) {
                boolean plain = f.getType() == int.class || f.getType() == long.class;
                DUE.isTrue("rule 5: " + f, plain && Modifier.isFinal(f.getModifiers()));
            } else {
                own++;
            }
        }
        DUE.isTrue("rule 11: fields of " + c, own <= MOST_FIELDS);
    }

    private static void methods(Class<?> c) {
        Set<String> face = new HashSet<>();
        for (Method m : SeepingRock.class.getDeclaredMethods()) {
            if (Modifier.isPublic(m.getModifiers())) {
                face.add(m.getName());
            }
        }
        for (Method m : c.getDeclaredMethods()) {
            DUE.isTrue("rule 11: parameters of " + m, m.getParameterCount() <= MOST_PARAMETERS);
            boolean hidden = !Modifier.isPublic(m.getModifiers());
            DUE.isTrue("rule 1: the name of " + m, !hidden || !face.contains(m.getName()));
        }
    }
}
