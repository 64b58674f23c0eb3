import java.io.IOException;
import java.lang.reflect.Constructor;
import java.lang.reflect.Field;
import java.lang.reflect.Member;
import java.lang.reflect.Method;
import java.lang.reflect.Modifier;
import java.nio.file.Files;
import java.nio.file.Path;
import java.util.ArrayList;
import java.util.HashSet;
import java.util.List;
import java.util.Set;
import java.util.TreeSet;
import java.util.regex.Matcher;
import java.util.regex.Pattern;
import java.util.stream.Collectors;
import java.util.stream.Stream;

/**
 * The face of the document: its constants, its constructor and its methods with what they throw, and nothing else
 * to be seen. To be run from the project's folder.
 */
public final class FaceTest {
    private static final Path DOC = Path.of("../shared/DOC.md");
    private static final Pattern METHOD = Pattern.compile("    public (\\w+) (\\w+)\\(([^)]*)\\)(?: throws ([\\w, ]+))?;");

    public static void main(String[] args) throws IOException {
        constants();
        methods();
        names();
        hidden();
        Check.end("FaceTest");
    }

    private static void constants() {
        int[] got = {QuorumHall.NONE, QuorumHall.FOLLOWER, QuorumHall.CANDIDATE, QuorumHall.LEADER, QuorumHall.ASK,
            QuorumHall.VOTE, QuorumHall.APPEND, QuorumHall.ACK, QuorumHall.PREPARE, QuorumHall.PROMISED,
            QuorumHall.ACCEPT, QuorumHall.ACCEPTED};
        int[] due = {-1, 0, 1, 2, 0, 1, 2, 3, 4, 5, 6, 7};
        for (int i = 0; i < due.length; i++) Check.due("constant " + i, got[i], due[i]);
        int seen = 0;
        for (Field f : QuorumHall.class.getDeclaredFields()) if (!Modifier.isPrivate(f.getModifiers())) seen++;
        Check.due("constants that are seen", seen, due.length);
    }

    private static void methods() throws IOException {
        Set<String> due = new TreeSet<>();
        for (String line : Files.readAllLines(DOC)) {
            Matcher m = METHOD.matcher(line);
            if (m.matches()) due.add(told(m.group(1), m.group(2), m.group(3).replaceAll(" \\w+(?=,|$)", ""), m.group(4)));
        }
        Check.due("methods in the document", due.size(), 27);
        Set<String> got = new TreeSet<>();
        for (Method m : QuorumHall.class.getDeclaredMethods()) {
            if (Modifier.isPrivate(m.getModifiers()) || m.isSynthetic()) continue;
            String thrown = m.getExceptionTypes().length == 0 ? null : list(m.getExceptionTypes());
            got.add(told(m.getReturnType().getSimpleName(), m.getName(), list(m.getParameterTypes()), thrown));
            Check.due(m.getName() + " is public and of an object", m.getModifiers(), Modifier.PUBLIC);
        }
        Check.due("methods", got, due);
    }

    private static String told(String answer, String name, String arguments, String thrown) {
        return answer + " " + name + "(" + arguments + ")" + (thrown == null ? "" : " throws " + thrown);
    }

    private static String list(Class<?>[] types) {
        return Stream.of(types).map(Class::getSimpleName).collect(Collectors.joining(", "));
    }

    /** No private method bears the name of a public one. */
    private static void names() {
        Set<String> publicNames = new HashSet<>();
        for (Method m : QuorumHall.class.getDeclaredMethods()) {
            if (Modifier.isPublic(m.getModifiers())) publicNames.add(m.getName());
        }
        List<Class<?>> classes = new ArrayList<>(List.of(QuorumHall.class.getDeclaredClasses()));
        classes.add(QuorumHall.class);
        for (Class<?> c : classes) {
            for (Method m : c.getDeclaredMethods()) {
                boolean twice = Modifier.isPrivate(m.getModifiers()) && publicNames.contains(m.getName());
                Check.due(m + " has a name of the face", twice, false);
            }
        }
    }

    private static void hidden() {
        Check.due("the class is public and final", QuorumHall.class.getModifiers(), Modifier.PUBLIC | Modifier.FINAL);
        Constructor<?>[] made = QuorumHall.class.getDeclaredConstructors();
        Check.due("constructors", made.length, 1);
        Check.due("the constructor is public", made[0].getModifiers(), Modifier.PUBLIC);
        Check.due("its arguments", made[0].getParameterCount(), 0);
        for (Class<?> c : QuorumHall.class.getDeclaredClasses()) {
            boolean hidden = !Modifier.isPublic(c.getModifiers()) && !Modifier.isProtected(c.getModifiers());
            Check.due(c + " is not public", hidden, true);
            for (Field f : c.getDeclaredFields()) staticIsFinal(f);
        }
        for (Field f : QuorumHall.class.getDeclaredFields()) staticIsFinal(f);
    }

    private static void staticIsFinal(Member f) {
        int mods = f.getModifiers();
        Check.due(f + " is no state of the class", Modifier.isStatic(mods) && !Modifier.isFinal(mods), false);
    }
}
