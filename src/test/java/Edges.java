import java.io.IOException;
import java.lang.reflect.InvocationTargetException;
import java.lang.reflect.Method;
import java.lang.reflect.Modifier;
import java.nio.file.Files;
import java.nio.file.Path;
import java.util.Arrays;
import java.util.Comparator;
import java.util.HashMap;
import java.util.Map;
import java.util.Set;
import java.util.TreeSet;

/** Tests of boundaries: each says first which sentence of the document it holds the class to. */
final class Edges {
    static final int NONE = -1;
    static final int HIDDEN = -100000;
    static final int LOW = Integer.MIN_VALUE;
    static final int HIGH = Integer.MAX_VALUE;

    private static final Set<String> HELD = new TreeSet<>();
    private static Map<String, String> sections = Map.of();
    private static String sentence = "";

    private Edges() {
    }

    /** Runs all tests of a class, so that none is forgotten. */
    static void runAll(Class<?> tests) throws IOException, IllegalAccessException, InvocationTargetException {
        sections = sections(Files.readString(Path.of("../shared/DOC.md")));
        Method[] methods = tests.getDeclaredMethods();
        Arrays.sort(methods, Comparator.comparing(Method::getName));
        int ran = 0;
        for (Method test : methods) {
            boolean isTest = Modifier.isStatic(test.getModifiers()) && test.getParameterCount() == 0
                    && test.getReturnType() == void.class;
            if (isTest) {
                sentence = "";
                test.setAccessible(true);
                test.invoke(null);
                Writing.due(test.getName() + " names a sentence", sentence.isEmpty() ? 0 : 1, 1);
                ran++;
            }
        }
        System.out.print(ran + " sentences: ");
    }

    /** Promises by their headings, the parts of the terms as 'Terms 1' to 'Terms 3'. */
    private static Map<String, String> sections(String document) {
        Map<String, String> found = new HashMap<>();
        for (String section : document.split("(?m)^## ")) {
            String[] parts = section.split("\n", 2);
            String heading = parts[0].replaceAll(":.*", "");
            if (parts.length < 2) {
                continue;
            }
            found.put(heading, parts[1]);
            String[] terms = parts[1].split("(?m)^==== \\d\\. ");
            for (int i = 1; i < terms.length; i++) {
                found.put(heading + " " + i, terms[i]);
            }
        }
        return found;
    }

    static void holds(String heading, String words) {
        sentence = heading + ", '" + words + "': ";
        HELD.add(heading);
        Writing.due(sentence + "stands in the document", sections.getOrDefault(heading, "").contains(words) ? 1 : 0, 1);
    }

    /** Whether a test has named each promise. */
    static void allPromisesAreHeld() {
        for (int promise = 1; promise <= 25; promise++) {
            Writing.due("promise " + promise + " is named by a test", HELD.contains("Promise " + promise) ? 1 : 0, 1);
        }
    }

    static void due(String what, long got, long want) {
        Writing.due(sentence + what, got, want);
    }

    static void missing(String what, Writing.Call call) {
        Writing.dueMissing(sentence + what, call);
    }

    static void illegal(String what, Writing.Call call) {
        Writing.dueIllegal(sentence + what, call);
    }

    static void row(BulkWriter writer, int place, int... want) {
        Writing.row(sentence, writer, place, want);
    }

    static BulkWriter good(String text) {
        BulkWriter writer = new BulkWriter();
        due("table of " + text, Writing.tell(writer, text), 0);
        due("fault of " + text, writer.fault(), NONE);
        return writer;
    }

    /** The fault's place is where the mark '^' stands, which is no part of the text. */
    static void bad(int kind, String marked) {
        int place = marked.indexOf('^');
        BulkWriter writer = new BulkWriter();
        due("table of " + marked, Writing.tell(writer, marked.substring(0, place) + marked.substring(place + 1)), kind);
        due("fault of " + marked, writer.fault(), place);
    }

    /** What right() tells, from its first answer on. */
    static void right(BulkWriter writer, int statement, int... want) {
        for (int what = 0; what < want.length; what++) {
            due("right(" + statement + ", " + what + ")", writer.right(statement, what), want[what]);
        }
    }

    static void plan(BulkWriter writer, int statement, int path, int... want) {
        for (int what = 0; what < want.length; what++) {
            due("plan(" + statement + ", " + path + ", " + what + ")", writer.plan(statement, path, what), want[what]);
        }
    }

    static void goes(BulkWriter writer, int statement, int path, int stage, int... want) {
        for (int what = 0; what < want.length; what++) {
            due("goes(" + statement + ", " + path + ", " + stage + ", " + what + ")",
                    writer.goes(statement, path, stage, what), want[what]);
        }
    }

    static void along(BulkWriter writer, int path, int... places) {
        for (int i = 0; i < places.length; i++) {
            due("along(" + path + ", " + i + ")", writer.along(path, i), places[i]);
        }
        missing("along(" + path + ") behind the last", () -> writer.along(path, places.length));
    }

    /** What a call leaves as it was; the counts named rise by one each. */
    static void keeps(String what, BulkWriter writer, Writing.Call call, int... rising) {
        long[] before = look(writer);
        try {
            call.go();
        } catch (RuntimeException e) {
            // what it throws is asked elsewhere
        }
        long[] after = look(writer);
        for (int count : rising) {
            before[count]++;
        }
        for (int i = 0; i < before.length; i++) {
            due(what + " leaves answer " + i + " as it was", after[i], before[i]);
        }
    }

    /** Some forty answers, the counts first. */
    private static long[] look(BulkWriter writer) {
        int columns = writer.count(0);
        long[] seen = new long[22 + 6 * columns];
        for (int i = 0; i <= 12; i++) {
            seen[i] = writer.count(i);
        }
        seen[13] = writer.fault();
        seen[14] = writer.fits();
        seen[15] = writer.look(0);
        seen[16] = writer.look(1);
        for (int what = 0; what < 3; what++) {
            seen[17 + what] = writer.years(7, 5, what);
        }
        for (int i = 0; i < 6 * columns; i++) {
            seen[22 + i] = writer.cell(i / columns, i % columns);
        }
        return seen;
    }
}
