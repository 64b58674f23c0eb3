import java.io.File;
import java.io.IOException;
import java.nio.file.Files;
import java.nio.file.Path;
import java.util.ArrayList;
import java.util.BitSet;
import java.util.LinkedHashMap;
import java.util.List;
import java.util.Map;
import java.util.Set;
import java.util.TreeSet;
import java.util.regex.Matcher;
import java.util.regex.Pattern;

/**
 * Each word of DOC.md, but for those that UNTESTED tells, stands beside a test in one of the WordsOf classes; and
 * each sentence that stands beside a test is in DOC.md. To be run from the project's folder.
 */
public final class QuotesTest {
    private static final Path DOC = Path.of("../shared/DOC.md");
    private static final Pattern QUOTE = Pattern.compile("/\\*\\* ([A-Z][\\w, ]*): \"([^\"]+)\" \\*/ static void \\w+\\(\\)");

    /** What names no boundary of a call, or says the same as what is tested elsewhere, and why. */
    private static final Set<String> UNTESTED = Set.of(
        // what it is, in short; the parts are tested under Terms
        "What it is: A bench on which machines agree: a net whose messages are delivered, lost or doubled by hand, leaders "
            + "with terms and logs that are cut back, requests that count once, leases by clocks that drift, single decisions "
            + "by ballots, crashes that forget what is not kept, and a checker that asks whether all that was answered can be "
            + "put in one order.",
        // FaceTest has the constants
        "Exceptions: The constants: `NONE = -1`: There is none. `FOLLOWER = 0, CANDIDATE = 1, LEADER = 2`: Roles. `ASK = 0, "
            + "VOTE = 1, APPEND = 2, ACK = 3, PREPARE = 4, PROMISED = 5, ACCEPT = 6, ACCEPTED = 7`: Kinds of messages. Ahead of "
            + "the calls `begin`, `toggle`, `cut`, `rate`, `spans`, `pass` the interface says: ---- the bench. Ahead of the calls "
            + "`deliver`, `lose`, `twice` the interface says: ---- the net. Ahead of the calls `stand`, `beat`, `request`, `read` "
            + "the interface says: ---- leaders and requests. Ahead of the calls `propose` the interface says: ---- decisions. "
            + "Ahead of the calls `steps`, `messages`, `message`, `of`, `entry`, `clock`, `lease`, `leases`, `decision`, `acts`, "
            + "`act`, `isInOrder`, `isAgreed` the interface says: ---- what is asked.",
        // the tests of what is thrown have the numbers of machines; those of Promise 4 both machines of a cut
        "Promise 4: `one`: a machine `other`: another one",
        // the answers and what is thrown say the rest of these
        "Promise 8: Delivers a message.",
        "Promise 18: Tells something of a message.",
        "Promise 19: Tells something of a machine.",
        "Promise 20: Tells something of an entry.",
        "Promise 21: Returns the clock of a machine.",
        "Promise 22: Returns until when, by its clock, a machine has a lease.",
        "Promise 24: Tells something of a machine and a decision.",
        "Promise 26: Tells something of an act.");

    private static final Set<String> UNTESTED_SECTIONS = Set.of("The public face", "Not promised");

    private final Map<String, String> sections = new LinkedHashMap<>();
    private final Map<String, BitSet> quoted = new LinkedHashMap<>();

    public static void main(String[] args) throws IOException {
        QuotesTest quotes = new QuotesTest();
        quotes.readSections();
        quotes.readQuotes();
        quotes.compareRest();
        Check.end("QuotesTest");
    }

    private void readSections() throws IOException {
        String section = "";
        for (String line : Files.readAllLines(DOC)) {
            String title = titleOf(line, section);
            if (!title.isEmpty()) section = title;
            else if (!line.isBlank()) sections.merge(section, plain(line), (a, b) -> (a + " " + b).trim());
        }
        for (String name : sections.keySet()) quoted.put(name, new BitSet());
    }

    /** The name of the section that begins with that line, or nothing. */
    private static String titleOf(String line, String section) {
        if (line.startsWith("## Promise ")) return line.substring(3, line.indexOf(':'));
        if (line.startsWith("#")) return line.replaceAll("^#+ ", "");
        boolean inTerms = section.equals("Terms") || section.equals("Machines, the net");
        return inTerms && (line.equals("Machines, the net") || line.equals("Leaders, logs")) ? line : "";
    }

    /** Without the signature of a call, which FaceTest has, and without what says no more than that. */
    private static String plain(String line) {
        return line.replaceAll("^`\\w+ ?\\w*\\([^`]*`: |^- `machine`: its number$|^Returns the number\\.$|^- ", "").trim();
    }

    private void readQuotes() throws IOException {
        File[] files = new File("src/test/java").listFiles((dir, name) -> name.matches("WordsOf\\w+Test\\.java"));
        Check.due("files with quotes", files != null && files.length > 0, true);
        int quotes = 0;
        int tests = 0;
        for (File file : files) {
            String text = Files.readString(file.toPath()).replaceAll("\\s+\\*?\\s*(?!/)", " ").replaceAll("\\s+", " ");
            Matcher found = QUOTE.matcher(text);
            for (; found.find(); quotes++) mark(file.getName(), found.group(1), found.group(2));
            Matcher test = Pattern.compile(" static void \\w+\\(\\) \\{").matcher(text);
            while (test.find()) tests++;
        }
        Check.due("tests without a sentence beside them", tests - quotes, 0);
    }

    private void mark(String file, String section, String quote) {
        String text = sections.getOrDefault(section, "");
        int at = text.indexOf(quote);
        Check.due(file + ", " + section + ": \"" + quote + "\" is in DOC.md", at >= 0, true);
        if (at >= 0) quoted.get(section).set(at, at + quote.length());
    }

    private void compareRest() {
        Set<String> rest = new TreeSet<>();
        for (String section : sections.keySet()) {
            if (UNTESTED_SECTIONS.contains(section)) continue;
            for (String words : unquoted(section)) rest.add(section + ": " + words);
        }
        for (String words : rest) Check.due("no test for " + words, UNTESTED.contains(words), true);
        for (String words : UNTESTED) Check.due("not in DOC.md, or tested: " + words, rest.contains(words), true);
    }

    /** The words of a section between its quotes. */
    private List<String> unquoted(String section) {
        String text = sections.get(section);
        BitSet marks = quoted.get(section);
        List<String> rest = new ArrayList<>();
        for (int from = marks.nextClearBit(0); from < text.length(); from = marks.nextClearBit(from)) {
            int to = marks.nextSetBit(from) < 0 ? text.length() : marks.nextSetBit(from);
            String words = text.substring(from, to).trim();
            if (words.matches(".*\\w.*")) rest.add(words);
            from = to;
        }
        return rest;
    }
}
