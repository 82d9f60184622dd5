import java.io.IOException;
import java.lang.reflect.Constructor;
import java.lang.reflect.Field;
import java.lang.reflect.Method;
import java.lang.reflect.Modifier;
import java.nio.file.Files;
import java.nio.file.Path;
import java.util.ArrayList;
import java.util.List;
import java.util.Set;
import java.util.TreeSet;
import java.util.regex.Matcher;
import java.util.regex.Pattern;

/** What of LANGUAGE.md can be told from the source and by reflection; the numbers are those of its rules. */
public final class LanguageTests {
    private static int wrong = 0;

    public static void main(String[] args) throws IOException, IllegalAccessException {
        List<Class<?>> classes = new ArrayList<>(List.of(BulkWriter.class.getDeclaredClasses()));
        classes.add(BulkWriter.class);
        face(Files.readString(Path.of("../shared/DOC.md")));
        for (Class<?> one : classes) {
            members(one);
        }
        due("11: at most twelve classes", classes.size() <= 12);
        source(Files.readString(Path.of("src/main/java/BulkWriter.java")));
        System.out.println("LanguageTests: " + wrong + " rules are broken");
        if (wrong != 0) {
            System.exit(1);
        }
    }

    private static void due(String rule, boolean holds) {
        if (!holds) {
            wrong++;
            System.out.println("broken: " + rule);
        }
    }

    /** Methods and constants as the document's face has them, written as signature() and constants do. */
    private static Set<String> dueFace(String document) {
        Set<String> due = new TreeSet<>();
        Matcher methods = Pattern.compile("(?m)^    public (\\w+) (\\w+)\\(([^)]*)\\)(?: throws ([\\w, ]+))?;$").matcher(document);
        while (methods.find()) {
            String parameters = methods.group(3).replaceAll(" \\w+(, |$)", ",").replaceAll(",$", "");
            String thrown = methods.group(4) == null ? "" : " " + methods.group(4).replace(", ", " ");
            due.add(methods.group(1) + " " + methods.group(2) + "(" + parameters + ")" + thrown);
        }
        due("the document has a face", due.size() == 24);
        Matcher constants = Pattern.compile("(?m)^    public static final int (\\w+) = (-?\\d+);$").matcher(document);
        while (constants.find()) {
            due.add(constants.group(1) + " = " + constants.group(2));
        }
        return due;
    }

    private static void face(String document) throws IllegalAccessException {
        Set<String> seen = new TreeSet<>();
        Set<String> publicNames = new TreeSet<>();
        for (Method m : BulkWriter.class.getDeclaredMethods()) {
            due("1: public or private: " + m, Modifier.isPublic(m.getModifiers()) || Modifier.isPrivate(m.getModifiers()));
            if (Modifier.isPublic(m.getModifiers())) {
                seen.add(signature(m));
                publicNames.add(m.getName());
            }
        }
        due("1: final", Modifier.isFinal(BulkWriter.class.getModifiers()));
        Constructor<?>[] constructors = BulkWriter.class.getDeclaredConstructors();
        due("1: one constructor", constructors.length == 1 && Modifier.isPublic(constructors[0].getModifiers())
                && constructors[0].getParameterCount() == 0);
        for (Class<?> one : BulkWriter.class.getDeclaredClasses()) {
            due("1: static " + one, Modifier.isStatic(one.getModifiers()) && !Modifier.isPublic(one.getModifiers()));
            for (Method m : one.getDeclaredMethods()) {
                due("1: no name of the face " + m, !publicNames.contains(m.getName()));
            }
        }
        for (Field f : BulkWriter.class.getDeclaredFields()) {
            due("1: public or private: " + f, Modifier.isPublic(f.getModifiers()) || Modifier.isPrivate(f.getModifiers()));
            if (Modifier.isPublic(f.getModifiers())) {
                due("5: " + f, Modifier.isStatic(f.getModifiers()) && Modifier.isFinal(f.getModifiers()) && f.getType() == int.class);
                seen.add(f.getName() + " = " + f.get(null));
            }
        }
        due("1: the face " + seen, seen.equals(dueFace(document)));
    }

    private static String signature(Method m) {
        StringBuilder text = new StringBuilder(m.getReturnType().getSimpleName() + " " + m.getName() + "(");
        for (Class<?> p : m.getParameterTypes()) {
            text.append(text.charAt(text.length() - 1) == '(' ? "" : ",").append(p.getSimpleName());
        }
        text.append(")");
        for (Class<?> e : m.getExceptionTypes()) {
            text.append(" ").append(e.getSimpleName());
        }
        return text.toString();
    }

    private static void members(Class<?> one) {
        int fields = 0;
        for (Field f : one.getDeclaredFields()) {
            if (Modifier.isStatic(f.getModifiers())) {
                due("5: final " + f, Modifier.isFinal(f.getModifiers()));
                due("5: a constant " + f, f.getType().isPrimitive() || f.getType() == String.class);
            } else {
                fields++;
            }
        }
        due("11: some twenty fields " + one, fields <= 20);
        for (Method m : one.getDeclaredMethods()) {
            due("11: seven parameters " + m, m.getParameterCount() <= 7);
            due("2: no lambda " + m, !m.isSynthetic());
            for (String name : List.of("equals", "hashCode", "toString", "finalize")) {
                due("6: no " + name, !m.getName().equals(name));
            }
        }
    }

    private static void source(String whole) {
        String code = whole.replaceAll("(?s)/\\*.*?\\*/", "").replaceAll("//[^\n]*", "")
                .replaceAll("\"[^\"\n]*\"", "\"\"").replaceAll("'[^'\n]+'", "'c'");
        for (String word : List.of("package", "try", "catch", "finally", "synchronized", "assert", "instanceof", "static\\s*\\{",
                "->", "::", "\\bthread\\b", "System\\.(?!arraycopy)", "\\bRandom\\b", "Exact\\(", "\\bdouble\\b", "\\bfloat\\b",
                "while \\(true\\)", "for \\(;;\\)", "\"\"\\s*\\+", "\\+\\s*\"\"", "\\bvar\\b", "protected", "goto")) {
            Pattern pattern = Pattern.compile(word.matches("[a-z]+") ? "\\b" + word + "\\b" : word);
            due("no '" + word + "'", !pattern.matcher(code).find());
        }
        Matcher imports = Pattern.compile("import ([^;]+);").matcher(code);
        while (imports.find()) {
            due("4: import " + imports.group(1), imports.group(1).equals("java.util.NoSuchElementException"));
        }
        Matcher thrown = Pattern.compile("throw ([^;]+);").matcher(code);
        while (thrown.find()) {
            due("6: throw " + thrown.group(1), thrown.group(1).matches("new (NoSuchElement|IllegalArgument)Exception\\(\"\"\\)"));
        }
        Matcher library = Pattern.compile("\\b(Math|Integer|Long|Arrays|System|String)\\.(\\w+)").matcher(code);
        Set<String> allowed = Set.of("Math.min", "Math.max", "Integer.bitCount", "System.arraycopy");
        while (library.find()) {
            due("4: " + library.group(), allowed.contains(library.group()));
        }
        due("4: signs of constants", whole.chars().allMatch(c -> c == '\n' || c >= 32 && c < 127));
        lengths(code.split("\n"));
    }

    private static void lengths(String[] lines) {
        for (int i = 0; i < lines.length; i++) {
            boolean opens = lines[i].matches(" {4,8}\\S.*\\) (throws .*)?\\{") && !lines[i].contains(" class ");
            if (!opens) {
                continue;
            }
            String close = lines[i].replaceAll("\\S.*", "") + "}";
            int end = i;
            while (end < lines.length - 1 && !lines[end].equals(close)) {
                end++;
            }
            due("11: sixty lines " + lines[i].trim(), end - i <= 60);
        }
        for (String line : lines) {
            due("a line is too long: " + line, line.length() <= 130);
        }
    }
}
