import java.nio.charset.StandardCharsets;
import java.util.ArrayList;
import java.util.List;
import java.util.Random;
import java.util.function.IntSupplier;

/**
 * Long seeded runs of calls on the class and on the slow model: each answer, each exception must be the same. Some texts
 * are asked without the model: what REASONS are for must hold.
 */
public final class ModelTests {
    private static final int RUNS = Integer.getInteger("runs", 6000);
    private static final int CALLS = 70;
    private static int wrong = 0;
    private static long asked = 0;
    private final Random random;
    private int columns;
    private BulkWriter writer = new BulkWriter();
    private Model model = new Model();
    private final List<String> log = new ArrayList<>();

    private ModelTests(long seed) {
        random = new Random(seed);
    }

    public static void main(String[] args) {
        for (int run = 0; run < RUNS && wrong < 5; run++) {
            new ModelTests(run).go(run);
        }
        System.out.println("ModelTests: " + asked + " answers, " + wrong + " not as the model's");
        if (wrong != 0) {
            System.exit(1);
        }
    }

    private void go(int run) {
        int before = wrong;
        text(random.nextInt(4) == 0);
        boolean isModelAsked = run % 5 != 4;
        for (int i = 0; i < CALLS && wrong == before && isModelAsked; i++) {
            call();
        }
        if (!isModelAsked) {
            plannedGoesRight();
        }
        if (wrong != before) {
            System.out.println("run " + run + ": " + log);
        }
    }

    private int less(int bound) {
        return random.nextInt(bound);
    }

    private boolean oneIn(int n) {
        return random.nextInt(n) == 0;
    }

    private String pick(String... some) {
        return some[less(some.length)];
    }

    // ---- texts

    private String number() {
        return switch (less(12)) {
            case 0 -> "" + less(100);
            case 1 -> pick("9999", "9998", "0", "00", "0007", "5000");
            default -> "" + less(6);
        };
    }

    private String signed() {
        return (oneIn(5) ? pick("-", "- ") : "") + number();
    }

    private String column() {
        return "" + (char) ('a' + less(oneIn(150) ? 4 : columns));
    }

    private String atom(boolean other, boolean bare) {
        switch (less(oneIn(3) ? 8 : 4)) {
            case 0:
            case 1: return bare || oneIn(150) ? column() : signed();
            case 2: return signed();
            case 3: return other ? "other " + column() : bare ? column() : signed();
            case 4: return "sum " + column();
            case 5: return "least " + column();
            case 6: return "most " + column();
            default: return "count";
        }
    }

    private String value(boolean other, boolean bare) {
        StringBuilder text = new StringBuilder(atom(other, bare));
        for (int i = less(3); i > 0; i--) {
            text.append(pick(" + ", " - ", "+", "-", oneIn(3) ? " * " : " + ")).append(atom(other, bare));
        }
        return text.toString();
    }

    private String sets(boolean other) {
        List<String> parts = new ArrayList<>();
        int used = 0;
        for (int i = 0; i < 1 + less(2); i++) {
            String c = column();
            if ((used >> c.charAt(0) - 'a' & 1) == 1 && !oneIn(60)) {
                continue;
            }
            used |= 1 << c.charAt(0) - 'a';
            String step = c + pick(" + ", " - ") + pick("0", "1", "2", "-1", "-0");
            parts.add(c + " = " + (oneIn(3) ? step : oneIn(8) ? c : value(other, true)));
        }
        return String.join(", ", parts);
    }

    private String values(boolean other, boolean bare) {
        List<String> parts = new ArrayList<>();
        for (int i = 0; i < columns; i++) {
            char c = (char) ('a' + i);
            String step = c + pick(" + ", " - ") + pick("0", "1", "2", "-1", "-0");
            parts.add(bare && oneIn(2) ? pick("" + c, step) : value(other, bare));
        }
        if (oneIn(200)) {
            parts.add("1");
        }
        return String.join(pick(",", ", "), parts);
    }

    private String where() {
        if (oneIn(3)) {
            return "";
        }
        StringBuilder text = new StringBuilder(" where ");
        for (int i = less(3); i >= 0; i--) {
            text.append(oneIn(2) ? column() + pick(" < ", " = ", ">") + signed()
                    : value(false, true) + pick("<", " = ", " > ") + value(false, true));
            text.append(i > 0 ? " and " : "");
        }
        return text.toString();
    }

    private String statement() {
        switch (less(4)) {
            case 0: return "update " + sets(false) + where() + ";";
            case 1: return "delete" + where() + ";";
            case 2: return "insert " + values(false, true) + where() + ";";
            default:
                return "merge " + column() + " " + column() + " "
                        + switch (less(4)) {
                            case 0 -> "delete";
                            case 1 -> "keep";
                            default -> "set " + sets(true);
                        }
                        + (oneIn(2) ? " insert " + values(true, false) : "") + ";";
        }
    }

    private String row(String word, int spread) {
        StringBuilder text = new StringBuilder(word);
        for (int i = 0; i < columns; i++) {
            text.append(' ').append(oneIn(12) ? signed() : "" + less(spread));
        }
        return text.append(';').toString();
    }

    private String wholeText() {
        columns = 1 + less(4);
        StringBuilder text = new StringBuilder(columns == 3 && oneIn(2) ? "" : "columns " + columns + ";");
        List<String> clauses = new ArrayList<>();
        int rows = oneIn(6) ? 24 + less(7) : oneIn(8) ? less(3) : 2 + less(8);
        int spread = oneIn(3) ? 4 : rows + 6;
        boolean isRising = oneIn(2);
        for (int i = 0; i < rows; i++) {
            String row = row("row", spread);
            clauses.add(isRising ? row.replaceFirst("-?[ ]*[0-9]+", "" + (i * 7 + 3) % 31) : row);
        }
        for (int i = less(oneIn(3) ? 11 : 4); i > 0; i--) {
            clauses.add(row("other", oneIn(2) ? spread : 30));
        }
        for (int i = less(4); i > 0; i--) {
            String first = column();
            String second = column();
            clauses.add((oneIn(3) ? "key " : "index ") + first
                    + (oneIn(2) && (!second.equals(first) || oneIn(60)) ? " " + second : "") + ";");
        }
        for (int i = less(7); i >= 0; i--) {
            clauses.add(statement());
        }
        if (oneIn(3)) {
            java.util.Collections.shuffle(clauses, random);
        }
        for (String clause : clauses) {
            text.append(clause).append(oneIn(5) ? pick(" ", "\n", "  ") : "");
        }
        return text.toString();
    }

    /** A text that is told without a fault in two of three tries, if it can be. */
    private void text(boolean isSpoiled) {
        String text = wholeText();
        for (int i = 0; i < 12 && !isSpoiled && (text.length() > 900 || hasFault(text)); i++) {
            text = wholeText();
        }
        if (isSpoiled) {
            for (int i = less(3); i >= 0; i--) {
                text = spoil(text);
            }
        }
        tell(text);
    }

    private static boolean hasFault(String text) {
        try {
            new Model.Reader(text).read();
            return false;
        } catch (Model.Fault f) {
            return true;
        }
    }

    private String spoil(String text) {
        int at = less(text.length() + 1);
        String token = pick(";", ",", "+", "-", "*", "<", "=", ">", " ", "a", "d", "12345", "99999", "5", "other ", "row 1;",
                "sum", "count", "columns 2;", "columns 5;", "where ", "and ", "insert ", "x", "A", "\t", "\u00e9", "(", "key a;",
                "index b;", "delete;", "merge a a keep;", "other 1 2 3;");
        switch (less(4)) {
            case 0: return text.substring(0, at) + token + text.substring(at);
            case 1: return text.substring(0, at);
            case 2: return text.substring(0, at) + text.substring(Math.min(text.length(), at + 1 + less(4)));
            default:
                int clause = text.indexOf(';', Math.min(at, text.length())) + 1;
                return text.substring(0, clause) + token + text.substring(clause);
        }
    }

    private void tell(String whole) {
        String text = whole.length() > 900 ? whole.substring(0, 900) : whole;
        byte[] bytes = text.getBytes(StandardCharsets.ISO_8859_1);
        for (int i = 0; i < bytes.length; i += 20) {
            int[] n = new int[5];
            for (int k = 0; k < 5; k++) {
                n[k] = Writing.packed(bytes, i + 4 * k);
            }
            same("feed", () -> writer.feed(n[0], n[1], n[2], n[3], n[4]), () -> model.feed(n[0], n[1], n[2], n[3], n[4]));
        }
        same("table " + text, () -> writer.table(bytes.length), () -> model.table(bytes.length));
        same("fault()", () -> writer.fault(), () -> model.fault());
        columns = model.count(0);
    }

    // ---- calls

    private int somePlace() {
        return oneIn(25) ? pickInt(-1, 30, Integer.MIN_VALUE, Integer.MAX_VALUE) : oneIn(3) ? less(30) : less(8);
    }

    private int someColumn() {
        return oneIn(25) ? pickInt(-1, columns, 4, Integer.MAX_VALUE) : less(columns);
    }

    private int someStatement() {
        int n = model.count(5);
        return n == 0 || oneIn(30) ? pickInt(-1, n, 8, Integer.MIN_VALUE) : less(n);
    }

    private int somePath() {
        int n = model.count(6);
        return oneIn(30) ? pickInt(-1, n, 7, Integer.MAX_VALUE) : less(n);
    }

    private int some(int bound) {
        return oneIn(30) ? pickInt(-1, bound, Integer.MIN_VALUE, Integer.MAX_VALUE) : less(bound);
    }

    private int someNumber() {
        return oneIn(12) ? pickInt(-10000, 10000, -9999, 9999, -100000, Integer.MIN_VALUE) : less(12) - 2;
    }

    private int pickInt(int... some) {
        return some[less(some.length)];
    }

    private void call() {
        int s = someStatement();
        int p = somePath();
        int place = somePlace();
        int column = someColumn();
        int number = someNumber();
        int w = some(4);
        switch (less(23)) {
            case 0: {
                int n = pickInt(-1, 0, 1, 20, 21, 900, 901);
                if (oneIn(25)) {
                    same("table " + n, () -> writer.table(n), () -> model.table(n));
                    columns = model.count(0);
                } else if (oneIn(12)) {
                    text(oneIn(3));
                }
                break;
            }
            case 1: same("fault()", () -> writer.fault(), () -> model.fault()); break;
            case 2: {
                int what = some(13);
                same("count " + what, () -> writer.count(what), () -> model.count(what));
                break;
            }
            case 3: same("cell " + place + " " + column, () -> writer.cell(place, column), () -> model.cell(place, column)); break;
            case 4: {
                int i = oneIn(9) ? pickInt(-1, 30, 29) : less(10);
                same("along " + p + " " + i, () -> writer.along(p, i), () -> model.along(p, i));
                break;
            }
            case 5: same("right " + s + " " + w, () -> writer.right(s, w), () -> model.right(s, w)); break;
            case 6: same("plan " + s + " " + p + " " + w, () -> writer.plan(s, p, w), () -> model.plan(s, p, w)); break;
            case 7: {
                int stage = some(4);
                same("goes " + s + " " + p + " " + stage + " " + w, () -> writer.goes(s, p, stage, w), () -> model.goes(s, p, stage, w));
                break;
            }
            case 8: same("wrongPaths " + s, () -> writer.wrongPaths(s), () -> model.wrongPaths(s)); break;
            case 9: {
                int what = some(2);
                same("cheapest " + s + " " + what, () -> writer.cheapest(s, what), () -> model.cheapest(s, what));
                break;
            }
            case 10: same("clashes " + s, () -> writer.clashes(s), () -> model.clashes(s)); break;
            case 11: {
                int i = oneIn(3) ? -1 : oneIn(20) ? pickInt(-2, 40, Integer.MAX_VALUE) : less(6);
                same("order " + s + " " + i, () -> writer.order(s, i), () -> model.order(s, i));
                break;
            }
            case 12: same("run " + s, () -> writer.run(s), () -> model.run(s)); break;
            case 13:
                same("lay " + place + " " + column + " " + number, () -> writer.lay(place, column, number),
                        () -> model.lay(place, column, number));
                break;
            case 14: same("take " + place, () -> writer.take(place), () -> model.take(place)); break;
            case 15: same("undo()", () -> writer.undo(), () -> model.undo()); break;
            case 16: seeOne(place, column, number); break;
            case 17: same("fits()", () -> writer.fits(), () -> model.fits()); break;
            case 18: {
                int what = some(2);
                same("look " + what, () -> writer.look(what), () -> model.look(what));
                break;
            }
            case 19:
                if (oneIn(3)) {
                    writer.forget();
                    model.forget();
                    log.add("forget()");
                }
                break;
            case 20: {
                int seed = random.nextInt();
                int n = oneIn(15) ? pickInt(-1, 21, Integer.MAX_VALUE) : less(21);
                int what = some(3);
                same("years " + seed + " " + n + " " + what, () -> writer.years(seed, n, what), () -> model.years(seed, n, what));
                break;
            }
            case 21:
                if (oneIn(2)) {
                    writer.image();
                    model.image();
                    log.add("image()");
                }
                break;
            default:
                if (oneIn(2)) {
                    same("restore()", () -> writer.restore() ? 1 : 0, () -> model.restore() ? 1 : 0);
                }
                break;
        }
    }

    /** Mostly what is so behind some statement, that something may fit. */
    private void seeOne(int place, int column, int number) {
        int seen = number;
        if (!oneIn(3) && place >= 0 && place < 30 && column >= 0 && column < columns) {
            var fitting = model.fitting();
            if (!fitting.isEmpty()) {
                Integer key = new ArrayList<>(fitting.keySet()).get(less(fitting.size()));
                seen = Model.at(fitting.get(key), place, column);
            }
        }
        int sure = seen;
        same("see " + place + " " + column + " " + sure, () -> writer.see(place, column, sure), () -> model.see(place, column, sure));
    }

    private static String answer(IntSupplier call) {
        try {
            return "" + call.getAsInt();
        } catch (RuntimeException e) {
            return e.getClass().getSimpleName();
        }
    }

    /** With the SPOOL that is PLANNED no PATH leaves other rows than the RIGHT run, if that isn't stopped on its way. */
    private void plannedGoesRight() {
        for (int s = 0; s < writer.count(5); s++) {
            int statement = s;
            int end = writer.right(statement, 1);
            for (int p = 0; p < writer.count(6) && (end == 0 || end == 5); p++) {
                int path = p;
                int stage = writer.plan(statement, path, 1);
                same("no row otherwise", () -> writer.goes(statement, path, stage, 0), () -> 0);
                same("the end", () -> writer.goes(statement, path, stage, 1), () -> 0);
                same("writes", () -> writer.goes(statement, path, stage, 2), () -> writer.right(statement, 0));
            }
        }
    }

    private void same(String what, IntSupplier call, IntSupplier modelCall) {
        String got = answer(call);
        String want = answer(modelCall);
        log.add(what + " -> " + want);
        asked++;
        if (!got.equals(want)) {
            wrong++;
            System.out.println(what + " answered " + got + ", the model " + want);
        }
    }
}
