import java.io.IOException;
import java.lang.reflect.Method;
import java.lang.reflect.Modifier;
import java.nio.file.DirectoryStream;
import java.nio.file.Files;
import java.nio.file.Path;
import java.util.ArrayList;
import java.util.List;
import java.util.Map;
import java.util.TreeMap;
import java.util.regex.Matcher;
import java.util.regex.Pattern;

/** That README.md tells the truth: run from the project's folder, where it is. */
public final class ReadmeTest {
    private static final Checks CHECKS = new Checks();
    private static final Path TESTS = Path.of("src/test/java");
    private static final Pattern TOLD = Pattern.compile("(?:int|boolean) (\\w+) = .*; +// (true|false|-?\\d+)\\b.*");

    public static void main(String[] args) throws IOException {
        List<String> readme = Files.readAllLines(Path.of("README.md"));
        List<String> example = between(readme, "```java", "```");
        List<String> run = between(Files.readAllLines(TESTS.resolve("ReadmeTest.java")),
                "// The example begins.", "// The example ends.");
        CHECKS.due("the example is the one that is run", example, () -> run);
        answersAreTheToldOnes(example);
        callsAndTestsAreNamed(String.join("\n", readme));
        CHECKS.end();
    }

    /** The lines between two lines, without the spaces round them. */
    private static List<String> between(List<String> lines, String begin, String end) {
        List<String> found = new ArrayList<>();
        boolean inside = false;
        for (String line : lines) {
            String words = line.strip();
            if (inside && words.equals(end)) {
                return found;
            }
            if (inside) {
                found.add(words);
            }
            inside = inside || words.equals(begin);
        }
        throw new IllegalStateException("no lines between " + begin + " and " + end);
    }

    private static void answersAreTheToldOnes(List<String> example) {
        Map<String, Object> told = new TreeMap<>();
        for (String line : example) {
            Matcher matcher = TOLD.matcher(line);
            if (matcher.matches()) {
                told.put(matcher.group(1), matcher.group(2));
            }
        }
        Map<String, Object> answers = new TreeMap<>();
        runExample(answers);
        CHECKS.due("the example's answers", told, () -> answers);
    }

    private static void callsAndTestsAreNamed(String readme) throws IOException {
        for (Method method : RelationStore.class.getDeclaredMethods()) {
            if (Modifier.isPublic(method.getModifiers())) {
                CHECKS.due(method.getName() + " is in the table", true,
                        () -> readme.contains("\n| `" + method.getName() + "("));
            }
        }
        try (DirectoryStream<Path> tests = Files.newDirectoryStream(TESTS, "*Test.java")) {
            for (Path test : tests) {
                String name = test.getFileName().toString().replace(".java", "");
                CHECKS.due(name + " is in the table", true, () -> readme.contains("\n| " + name + " |"));
            }
        }
    }

    private static void runExample(Map<String, Object> answers) {
        // The example begins.
        RelationStore store = new RelationStore(3);              // keeps the last 4 versions

        // Groups are of namespace 0, folders of namespace 1, documents of namespace 2.
        int member = store.relation(0, true, 0, 1);              // 0: users, and usersets of relation 0
        int viewer = store.relation(1, true, 0, 1);              // 1: users, and usersets of relation 0
        int folder = store.relation(2, false, 2, 0);             // 2: objects of namespace 1
        int banned = store.relation(2, true, 0, 0);              // 3: users
        int reader = store.relation(2, true, 0, 0);              // 4: users
        for (char c : "T|f21-c3".toCharArray()) {                // and the folder's viewers, but none who is banned
            store.type(c);
        }
        boolean sound = store.sound(reader);                     // true
        int relations = store.accept();                          // 5

        store.change(true, 0, member, 0, 5, 0);                  // user 5 is in group 0
        store.change(true, 4, viewer, 2, 0, member);             // who is in group 0 views folder 4
        int changes = store.change(true, 8, folder, 1, 4, 0);    // 3; document 8 is in folder 4
        int first = store.commit(-1);                            // 1
        boolean may = store.check(first, 8, reader, 5);          // true
        int readers = store.expand(first, 8, reader);            // 32: bit 5
        int documents = store.lookup(first, reader, 5);          // 1: bit 0, the first object of namespace 2
        boolean nested = store.nested(first, 4, viewer, 0, member); // true

        store.change(true, 8, banned, 0, 5, 0);
        int lost = store.commit(1);                              // -1: a crash before the mark
        int latest = store.latest();                             // 1
        store.change(true, 8, banned, 0, 5, 0);
        int second = store.commit(-1);                           // 2
        boolean mayNow = store.check(second, 8, reader, 5);      // false
        boolean mightThen = store.check(first, 8, reader, 5);    // true: version 1 is as it was

        int tuples = store.tuples(second);                       // 4
        int records = store.records();                           // 6: 3 changes, a mark, 1 change, a mark
        int since = store.watch(first);                          // 1
        int which = store.watched(first, 0, 2);                  // 3: the relation of that change
        store.crash();                                           // the batch is empty; all versions stay
        // The example ends.
        Object[] named = {"member", member, "viewer", viewer, "folder", folder, "banned", banned, "reader", reader,
            "sound", sound, "relations", relations, "changes", changes, "first", first, "may", may,
            "readers", readers, "documents", documents, "nested", nested, "lost", lost, "latest", latest,
            "second", second, "mayNow", mayNow, "mightThen", mightThen, "tuples", tuples, "records", records,
            "since", since, "which", which};
        for (int i = 0; i < named.length; i += 2) {
            answers.put(named[i].toString(), named[i + 1].toString());
        }
    }
}
