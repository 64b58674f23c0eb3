import java.lang.reflect.Constructor;
import java.lang.reflect.Field;
import java.lang.reflect.Member;
import java.lang.reflect.Method;
import java.lang.reflect.Modifier;
import java.util.HashSet;
import java.util.Set;
import java.util.TreeSet;

/** The face of the document: its constants, its constructor and its methods, and nothing else to be seen. */
public final class FaceTest {
    private static final String[] METHODS = {
        "int begin(int)", "boolean toggle(int)", "boolean cut(int, int)", "float rate(int, int)", "void spans(int, int)",
        "float pass(int)", "int deliver(int)", "int lose(int)", "int twice(int)", "int stand(int)", "int beat(int)",
        "int request(int, int, int, int)", "int read(int)", "int propose(int, int, int)", "int steps()", "int messages()",
        "int message(int, int)", "int of(int, int)", "int entry(int, int, int)", "float clock(int)", "float lease(int)",
        "int leases()", "int decision(int, int, int)", "int acts()", "int act(int, int)", "boolean isInOrder()",
        "boolean isAgreed()"};

    public static void main(String[] args) {
        constants();
        methods();
        hidden();
        Check.end("FaceTest");
    }

    private static void constants() {
        int[] got = {QuorumHall.NONE, QuorumHall.FOLLOWER, QuorumHall.CANDIDATE, QuorumHall.LEADER, QuorumHall.ASK,
            QuorumHall.VOTE, QuorumHall.APPEND, QuorumHall.ACK, QuorumHall.PREPARE, QuorumHall.PROMISED,
            QuorumHall.ACCEPT, QuorumHall.ACCEPTED};
        int[] due = {-1, 0, 1, 2, 0, 1, 2, 3, 4, 5, 6, 7};
        for (int i = 0; i < due.length; i++) Check.due("constant " + i, got[i], due[i]);
        int seen = 0;
        for (Field f : QuorumHall.class.getDeclaredFields()) if (!Modifier.isPrivate(f.getModifiers())) seen++;
        Check.due("constants that are seen", seen, due.length);
    }

    private static void methods() {
        Set<String> due = new TreeSet<>(Set.of(METHODS));
        Set<String> got = new TreeSet<>();
        Set<String> publicNames = new HashSet<>();
        for (Method m : QuorumHall.class.getDeclaredMethods()) {
            if (Modifier.isPrivate(m.getModifiers()) || m.isSynthetic()) continue;
            publicNames.add(m.getName());
            StringBuilder told = new StringBuilder(m.getReturnType() + " " + m.getName() + "(");
            for (Class<?> p : m.getParameterTypes()) told.append(told.charAt(told.length() - 1) == '(' ? "" : ", ").append(p);
            got.add(told + ")");
            Check.due(m.getName() + " is public and of an object", m.getModifiers(), Modifier.PUBLIC);
        }
        Check.due("methods", got, due);
        for (Class<?> c : QuorumHall.class.getDeclaredClasses()) {
            for (Method m : c.getDeclaredMethods()) {
                boolean twice = Modifier.isPrivate(m.getModifiers()) && publicNames.contains(m.getName());
                Check.due(m + " has a name of the face", twice, false);
            }
        }
        for (Method m : QuorumHall.class.getDeclaredMethods()) {
            boolean twice = Modifier.isPrivate(m.getModifiers()) && publicNames.contains(m.getName());
            Check.due(m + " has a name of the face", twice, false);
        }
    }

    private static void hidden() {
        Check.due("the class is public and final", QuorumHall.class.getModifiers(), Modifier.PUBLIC | Modifier.FINAL);
        Constructor<?>[] made = QuorumHall.class.getDeclaredConstructors();
        Check.due("constructors", made.length, 1);
        Check.due("the constructor is public", made[0].getModifiers(), Modifier.PUBLIC);
        Check.due("its arguments", made[0].getParameterCount(), 0);
        for (Class<?> c : QuorumHall.class.getDeclaredClasses()) {
            boolean hidden = !Modifier.isPublic(c.getModifiers()) && !Modifier.isProtected(c.getModifiers());
            Check.due(c + " is not public", hidden, true);
            for (Field f : c.getDeclaredFields()) staticIsFinal(f);
        }
        for (Field f : QuorumHall.class.getDeclaredFields()) staticIsFinal(f);
    }

    private static void staticIsFinal(Member f) {
        int mods = f.getModifiers();
        Check.due(f + " is no state of the class", Modifier.isStatic(mods) && !Modifier.isFinal(mods), false);
    }
}
