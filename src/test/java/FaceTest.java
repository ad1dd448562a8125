import java.io.IOException;
import java.lang.reflect.Constructor;
import java.lang.reflect.Field;
import java.lang.reflect.Method;
import java.lang.reflect.Modifier;
import java.nio.file.Files;
import java.nio.file.Path;
import java.util.HashSet;
import java.util.List;
import java.util.Set;
import java.util.TreeSet;

/** The public face: each constant, the constructor and each method of the document, and nothing else. */
public final class FaceTest {
    private static final String[] METHODS = {
        "int pore(int)", "int throat(int,int)", "int hinder(int,int)", "int shut(int,boolean)",
        "int inlet(int,boolean)", "int trapping(boolean)", "int about(int,int)", "int of(int,int)",
        "int ranked(int)", "int core(int,int,int)", "int cell(int,int,long,int)", "int wild(int,int,int)",
        "int splice(int,int,int,int,int)", "int lose(int)", "long told(int,int)", "int pour(int,int,int,int)",
        "int begin()", "int step()", "int run(int)", "int undo(int)", "int many(int)", "int opened(int)",
        "int now(int,int)", "int front(int)", "int lake(int,int)", "int through()", "int worst(int)",
        "int way(int,int)", "int join(int,int)", "int tree(int)", "int claim(int)", "int copy()",
        "int alter(int,int)", "int unclaim()", "int check()"
    };

    public static void main(String[] args) throws IOException {
        Due due = new Due("FaceTest");
        document(due);
        constants(due);
        methods(due);
        members(due);
        due.end();
    }

    /** The lists of this test are the document's own. */
    private static void document(Due due) throws IOException {
        List<String> lines = Files.readAllLines(Path.of("../shared/DOC.md"));
        Set<String> told = new HashSet<>();
        int constants = 0;
        for (String line : lines.subList(lines.indexOf("```java"), lines.indexOf("```"))) {
            if (line.startsWith("    public static final int ")) {
                constants++;
            } else if (line.startsWith("    public ") && !line.equals("    public SeepingRock();")) {
                told.add(line.trim().replaceAll("^public |;$", "").replaceAll(" \\w+(?=[,)])", "").replace(", ", ","));
            }
        }
        due.isTrue("the document's methods are " + told, told.equals(Set.of(METHODS)));
        due.is("the document's constants", constants, 8);
    }

    private static void constants(Due due) {
        due.is("NUMBER", SeepingRock.NUMBER, -1);
        due.is("FULL", SeepingRock.FULL, -2);
        due.is("MISSING", SeepingRock.MISSING, -3);
        due.is("KIND", SeepingRock.KIND, -4);
        due.is("SIZE", SeepingRock.SIZE, -5);
        due.is("STATE", SeepingRock.STATE, -6);
        due.is("END", SeepingRock.END, -7);
        due.is("APART", SeepingRock.APART, -8);
    }

    private static void methods(Due due) {
        Set<String> found = new TreeSet<>();
        Set<String> hidden = new TreeSet<>();
        for (Method m : SeepingRock.class.getDeclaredMethods()) {
            if (Modifier.isPrivate(m.getModifiers())) {
                hidden.add(m.getName());
                continue;
            }
            due.isTrue(m.getName() + " is public alone", m.getModifiers() == Modifier.PUBLIC);
            found.add(signature(m));
        }
        due.isTrue("the methods are " + found, found.equals(new TreeSet<>(Set.of(METHODS))));
        for (String face : METHODS) {
            String name = face.substring(face.indexOf(' ') + 1, face.indexOf('('));
            due.isTrue("no private method bears the name " + name, !hidden.contains(name));
        }
    }

    private static String signature(Method m) {
        StringBuilder text = new StringBuilder(m.getReturnType().getName()).append(' ').append(m.getName()).append('(');
        for (int i = 0; i < m.getParameterCount(); i++) {
            text.append(i == 0 ? "" : ",").append(m.getParameterTypes()[i].getName());
        }
        return text.append(')').toString();
    }

    private static void members(Due due) {
        int seen = 0;
        for (Field f : SeepingRock.class.getDeclaredFields()) {
            if (!Modifier.isPrivate(f.getModifiers())) {
                seen++;
                due.is(f.getName(), f.getModifiers(), Modifier.PUBLIC | Modifier.STATIC | Modifier.FINAL);
            }
        }
        due.is("constants that can be seen", seen, 8);
        Constructor<?>[] made = SeepingRock.class.getDeclaredConstructors();
        due.is("constructors", made.length, 1);
        due.is("the constructor is public", made[0].getModifiers(), Modifier.PUBLIC);
        due.is("its parameters", made[0].getParameterCount(), 0);
        due.is("the class", SeepingRock.class.getModifiers(), Modifier.PUBLIC | Modifier.FINAL);
        for (Class<?> c : SeepingRock.class.getDeclaredClasses()) {
            boolean kept = !Modifier.isPublic(c.getModifiers()) && !Modifier.isProtected(c.getModifiers());
            due.isTrue(c.getName() + " is static and not public", kept && Modifier.isStatic(c.getModifiers()));
        }
    }
}
