import java.io.File;
import java.io.IOException;
import java.lang.reflect.Method;
import java.lang.reflect.Modifier;
import java.nio.file.Files;
import java.nio.file.Path;
import java.util.Set;
import java.util.TreeSet;
import java.util.regex.Matcher;
import java.util.regex.Pattern;

/** README.md: its example answers as it says, and it names each call and each test. To be run from the project's folder. */
public final class ReadmeTest {
    private static final Pattern LINE = Pattern.compile("hall\\.(\\w+)\\(([\\d, ]*)\\); +// (-?[\\w.]+).*");

    private final String readme = Files.readString(Path.of("README.md"));
    private QuorumHall hall;
    private int calls = 0;

    private ReadmeTest() throws IOException { }

    public static void main(String[] args) throws IOException, ReflectiveOperationException {
        ReadmeTest test = new ReadmeTest();
        test.example();
        test.namesOfCalls();
        test.namesOfTests();
        Check.end("ReadmeTest");
    }

    private void example() throws ReflectiveOperationException {
        int start = readme.indexOf("```java\n") + 8;
        for (String line : readme.substring(start, readme.indexOf("```", start)).split("\n")) run(line);
        Check.due("calls of the example", calls > 10, true);
    }

    /** A line of the example: one that makes the bench, one that delivers all, or a call with its answer. */
    private void run(String line) throws ReflectiveOperationException {
        Matcher call = LINE.matcher(line);
        if (line.startsWith("QuorumHall hall = new QuorumHall();")) hall = new QuorumHall();
        else if (line.equals("while (hall.messages() > 0) hall.deliver(0);")) Hall.deliverAll(hall);
        else if (call.matches()) Check.due(line, answer(call.group(1), call.group(2)), call.group(3));
        else Check.due("a line that this test can't run", line, "");
    }

    private String answer(String name, String arguments) throws ReflectiveOperationException {
        String[] words = arguments.isEmpty() ? new String[0] : arguments.split(", ");
        Object[] numbers = new Object[words.length];
        Class<?>[] types = new Class<?>[words.length];
        for (int i = 0; i < words.length; i++) {
            numbers[i] = Integer.valueOf(words[i]);
            types[i] = int.class;
        }
        calls++;
        return String.valueOf(QuorumHall.class.getMethod(name, types).invoke(hall, numbers));
    }

    private void namesOfCalls() {
        for (Method call : QuorumHall.class.getDeclaredMethods()) {
            if (Modifier.isPublic(call.getModifiers())) {
                Check.due("README.md names " + call.getName(), readme.contains("`" + call.getName() + "`"), true);
            }
        }
    }

    private void namesOfTests() {
        Set<String> named = new TreeSet<>();
        Matcher name = Pattern.compile("`(\\w+Test)`").matcher(readme);
        while (name.find()) named.add(name.group(1));
        Set<String> there = new TreeSet<>();
        String[] files = new File("src/test/java").list();
        if (files != null) for (String file : files) if (file.endsWith("Test.java")) there.add(file.replace(".java", ""));
        Check.due("the tests that README.md names", named, there);
    }
}
