import java.io.IOException;
import java.lang.reflect.InvocationTargetException;
import java.lang.reflect.Method;
import java.nio.file.Files;
import java.nio.file.Path;
import java.util.regex.Matcher;
import java.util.regex.Pattern;

/** The calls that README.md shows answer what it says. */
public final class ReadmeTests {
    private static final Pattern TELLS = Pattern.compile("tell\\(writer, \"([^\"]*)\"\\); +// (\\d+).*");
    private static final Pattern CALLS = Pattern.compile("writer\\.(\\w+)\\(([-\\d, ]*)\\);(?: +// ([-\\w]+).*)?");
    private static BulkWriter writer = new BulkWriter();
    private static int shown = 0;

    public static void main(String[] args) throws IOException, IllegalAccessException {
        Matcher blocks = Pattern.compile("(?s)```java\n(.*?)```").matcher(Files.readString(Path.of("README.md")));
        String helper = Files.readString(Path.of("src/test/java/Writing.java")).replaceAll("\\s+", " ");
        while (blocks.find()) {
            if (blocks.group(1).startsWith("static ")) {
                for (String method : blocks.group(1).split("\n\n")) {
                    int found = helper.contains(method.trim().replaceAll("\\s+", " ")) ? 1 : 0;
                    Writing.due("stands in Writing.java: " + method, found, 1);
                }
                continue;
            }
            for (String line : blocks.group(1).split("\n")) {
                show(line);
            }
        }
        Writing.due("many calls are shown", shown > 40 ? 1 : 0, 1);
        Writing.end("ReadmeTests");
    }

    private static void show(String line) throws IllegalAccessException {
        Matcher tells = TELLS.matcher(line);
        Matcher calls = CALLS.matcher(line);
        if (line.equals("BulkWriter writer = new BulkWriter();")) {
            writer = new BulkWriter();
        } else if (tells.matches()) {
            Writing.due(line, Writing.tell(writer, tells.group(1)), Integer.parseInt(tells.group(2)));
        } else if (calls.matches()) {
            String got = answer(calls.group(1), calls.group(2));
            boolean isSo = got.equals(calls.group(3) == null ? "null" : calls.group(3));
            Writing.due(line + " answers " + got + ", which is so", isSo ? 1 : 0, 1);
            shown++;
        } else {
            Writing.due("is shown: " + line, 0, 1);
        }
    }

    /** What the call answers, or the name of what it throws. */
    private static String answer(String name, String numbers) throws IllegalAccessException {
        String[] parts = numbers.isEmpty() ? new String[0] : numbers.split(", ");
        Object[] values = new Object[parts.length];
        for (int i = 0; i < parts.length; i++) {
            values[i] = Integer.valueOf(parts[i]);
        }
        for (Method method : BulkWriter.class.getMethods()) {
            if (method.getName().equals(name) && method.getParameterCount() == values.length) {
                try {
                    return String.valueOf(method.invoke(writer, values));
                } catch (InvocationTargetException e) {
                    return e.getCause().getClass().getSimpleName();
                }
            }
        }
        return "no such call";
    }
}
