import java.io.IOException;
import java.lang.reflect.InvocationTargetException;
import java.lang.reflect.Method;
import java.lang.reflect.Modifier;
import java.nio.file.Files;
import java.nio.file.Path;
import java.util.Arrays;
import java.util.Comparator;
import java.util.HashMap;
import java.util.List;
import java.util.Map;
import java.util.Set;
import java.util.TreeSet;
import java.util.function.Supplier;

/**
 * Runs tests of boundary cases. Each of them says first, with of(), the part of ../shared/DOC.md and the words there
 * that it holds: words that don't stand there count as a wrong answer, so that tests and document stay together.
 */
final class Sentences {
    /** A call on an object in a state where it is tried. */
    interface Call {
        long on(SeepingRock x);
    }

    private static final Path DOCUMENT = Path.of("../shared/DOC.md");

    private final Due due;
    private final Map<String, String> parts = new HashMap<>();
    private final Set<String> held = new TreeSet<>();
    private String sentence = "";

    Sentences(String test) {
        due = new Due(test);
        String heading = "";
        for (String line : lines()) {
            if (line.startsWith("## ")) {
                heading = line.substring(3).split(":")[0];
            }
            parts.merge(heading, line + "\n", String::concat);
        }
    }

    private static List<String> lines() {
        try {
            return Files.readAllLines(DOCUMENT);
        } catch (IOException e) {
            System.out.println(DOCUMENT + " can't be read: the words that the tests hold aren't looked up in it");
            return List.of();
        }
    }

    /** Every method of this class that takes nothing and gives nothing is a test; it ends the program. */
    void holdAll(Class<?> tests, String... dueParts) {
        Method[] methods = tests.getDeclaredMethods();
        Arrays.sort(methods, Comparator.comparing(Method::getName));
        for (Method m : methods) {
            if (m.getParameterCount() == 0 && m.getReturnType() == void.class && Modifier.isStatic(m.getModifiers())) {
                hold(m);
            }
        }
        for (String part : dueParts) {
            due.isTrue("there is a test of " + part, held.contains(part));
        }
        due.end();
    }

    private void hold(Method m) {
        sentence = "";
        try {
            m.setAccessible(true);
            m.invoke(null);
        } catch (InvocationTargetException e) {
            due.isTrue(sentence + m.getName() + " threw " + e.getCause(), false);
        } catch (IllegalAccessException e) {
            due.isTrue(m.getName() + " can't be called", false);
        }
        due.isTrue(m.getName() + " says what it holds", !sentence.isEmpty());
    }

    /** The calls that follow hold these words of that part of the document. */
    void of(String part, String words) {
        sentence = part + " \"" + words + "\": ";
        held.add(part);
        due.isTrue(sentence + "stands in the document", parts.isEmpty() || parts.getOrDefault(part, "").contains(words));
    }

    void is(String call, long got, long want) {
        due.is(sentence + call, got, want);
    }

    /** Refused (or answered, but for changes) alike with and without a RUN. */
    void refused(String call, long want, Call c) {
        refusedIn(Worlds::still, call, want, c);
        refusedIn(Worlds::running, call, want, c);
        refusedIn(Worlds::ended, call, want, c);
    }

    void refusedInRuns(String call, long want, Call c) {
        refusedIn(Worlds::running, call, want, c);
        refusedIn(Worlds::ended, call, want, c);
    }

    /** It answers as is due, and whatever can be asked behind it is answered as if it hadn't been called. */
    void refusedIn(Supplier<SeepingRock> world, String call, long want, Call c) {
        SeepingRock x = world.get();
        is(call, c.on(x), want);
        unchanged(call, x, world.get());
    }

    void unchanged(String call, SeepingRock x, SeepingRock as) {
        List<String> got = Worlds.picture(x);
        List<String> want = Worlds.picture(as);
        for (int k = 0; k < want.size(); k++) {
            if (!got.get(k).equals(want.get(k))) {
                due.isTrue(sentence + call + " changes nothing, but: " + got.get(k) + " for " + want.get(k), false);
                return;
            }
        }
        due.isTrue(sentence + call + " changes nothing", got.size() == want.size());
    }

    /** The first numbers that aren't least to greatest, and the lowest and highest there are. */
    static int[] outside(int least, int greatest) {
        return new int[] {Integer.MIN_VALUE, Integer.MIN_VALUE + 1, least - 1, greatest + 1,
            Integer.MAX_VALUE - 1, Integer.MAX_VALUE};
    }
}
