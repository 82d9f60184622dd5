import java.util.ArrayDeque;
import java.util.ArrayList;
import java.util.Comparator;
import java.util.Deque;
import java.util.HashSet;
import java.util.List;
import java.util.Map;
import java.util.NoSuchElementException;
import java.util.Set;
import java.util.TreeMap;
import java.util.TreeSet;

/** A slow BulkWriter, written from the document alone in another way than the class; the fuzz compares both. */
final class Model {
    static final int NONE = -1;
    static final int HIDDEN = -100000;

    record Atom(char sign, String kind, int arg) { }

    record Test(List<Atom> left, char sign, List<Atom> right) { }

    record Index(List<Integer> columns, boolean isKey) { }

    static final class Stmt {
        String verb = "";
        String match = "";
        int own;
        int theirs;
        final TreeMap<Integer, List<Atom>> sets = new TreeMap<>();
        final List<List<Atom>> values = new ArrayList<>();
        final List<Test> tests = new ArrayList<>();

        boolean isMerge() {
            return verb.equals("merge");
        }

        boolean removes() {
            return verb.equals("delete") || match.equals("delete");
        }
    }

    static final class Told {
        int columns = 3;
        final TreeMap<Integer, int[]> rows = new TreeMap<>();
        final List<Index> indexes = new ArrayList<>();
        final List<int[]> others = new ArrayList<>();
        final List<Stmt> stmts = new ArrayList<>();
    }

    // ---- texts

    @SuppressWarnings("serial")
    static final class Fault extends RuntimeException {
        final int kind;
        final int place;

        Fault(int kind, int place) {
            this.kind = kind;
            this.place = place;
        }
    }

    record Token(String text, int place) { }

    static final class Reader {
        static final Set<String> STATEMENTS = Set.of("update", "delete", "insert", "merge");
        final List<Token> tokens = new ArrayList<>();
        int at;
        final Told told = new Told();

        Reader(String text) {
            java.util.regex.Matcher m =
                    java.util.regex.Pattern.compile("[a-z]+|[0-9]+|[^ \n]", java.util.regex.Pattern.DOTALL).matcher(text);
            while (m.find()) {
                tokens.add(new Token(m.group(), m.start()));
            }
            tokens.add(new Token("", text.length()));
        }

        String here() {
            return tokens.get(at).text();
        }

        Fault fault(int kind) {
            return new Fault(kind, tokens.get(at).place());
        }

        void need(boolean isSo, int kind) {
            if (!isSo) {
                throw fault(kind);
            }
        }

        void word(String text) {
            need(here().equals(text), 1);
            at++;
        }

        boolean isNumber() {
            return here().matches("[0-9]+");
        }

        int number() {
            need(isNumber(), 1);
            need(here().length() <= 4, 2);
            int n = Integer.parseInt(here());
            at++;
            return n;
        }

        int signed() {
            if (here().equals("-")) {
                at++;
                return -number();
            }
            return number();
        }

        boolean isColumn() {
            return here().matches("[a-d]");
        }

        int columnHere() {
            need(isColumn(), 1);
            int c = here().charAt(0) - 'a';
            need(c < told.columns, 3);
            return c;
        }

        int column() {
            int c = columnHere();
            at++;
            return c;
        }

        Told read() {
            for (boolean isFirst = true; !here().isEmpty(); isFirst = false) {
                clause(isFirst);
            }
            return told;
        }

        void clause(boolean isFirst) {
            String verb = here();
            need(Set.of("columns", "row", "other", "key", "index", "update", "delete", "insert", "merge").contains(verb), 1);
            need(!verb.equals("row") || told.rows.size() < 30, 2);
            need(!verb.equals("other") || told.others.size() < 10, 2);
            need(!verb.equals("key") && !verb.equals("index") || told.indexes.size() < 3, 2);
            need(!STATEMENTS.contains(verb) || told.stmts.size() < 8, 2);
            need(!verb.equals("columns") || isFirst, 4);
            at++;
            if (verb.equals("columns")) {
                need(isNumber(), 1);
                need(here().length() <= 4 && Integer.parseInt(here()) >= 1 && Integer.parseInt(here()) <= 4, 2);
                told.columns = number();
            } else if (verb.equals("row") || verb.equals("other")) {
                int[] row = new int[told.columns];
                for (int i = 0; i < told.columns; i++) {
                    row[i] = signed();
                }
                need(here().equals(";"), 1);
                if (verb.equals("row")) {
                    told.rows.put(told.rows.size(), row);
                } else {
                    told.others.add(row);
                }
                need(clash(told, told.rows) == null, 4);
            } else if (verb.equals("key") || verb.equals("index")) {
                List<Integer> columns = new ArrayList<>();
                columns.add(column());
                if (isColumn()) {
                    need(!columns.contains(columnHere()), 3);
                    columns.add(column());
                }
                need(here().equals(";"), 1);
                told.indexes.add(new Index(columns, verb.equals("key")));
                need(clash(told, told.rows) == null, 4);
            } else {
                statement(verb);
            }
            word(";");
        }

        void statement(String verb) {
            Stmt s = new Stmt();
            s.verb = verb;
            if (verb.equals("merge")) {
                s.own = column();
                s.theirs = column();
                s.match = here();
                need(Set.of("set", "delete", "keep").contains(s.match), 1);
                at++;
                if (s.match.equals("set")) {
                    sets(s);
                }
                if (here().equals("insert")) {
                    at++;
                    values(s);
                }
            } else {
                if (verb.equals("update")) {
                    sets(s);
                } else if (verb.equals("insert")) {
                    values(s);
                }
                if (here().equals("where")) {
                    do {
                        at++;
                        List<Atom> left = value(false, true);
                        need(here().matches("[<=>]"), 1);
                        char sign = here().charAt(0);
                        at++;
                        s.tests.add(new Test(left, sign, value(false, true)));
                    } while (here().equals("and"));
                }
            }
            told.stmts.add(s);
        }

        void sets(Stmt s) {
            while (true) {
                int c = columnHere();
                need(!s.sets.containsKey(c), 3);
                at++;
                word("=");
                s.sets.put(c, value(s.isMerge(), true));
                if (!here().equals(",")) {
                    return;
                }
                at++;
            }
        }

        void values(Stmt s) {
            while (true) {
                s.values.add(value(s.isMerge(), !s.isMerge()));
                boolean more = here().equals(",");
                need(more == s.values.size() < told.columns, 1);
                if (!more) {
                    return;
                }
                at++;
            }
        }

        List<Atom> value(boolean takesOther, boolean takesColumn) {
            List<Atom> atoms = new ArrayList<>();
            char sign = '+';
            while (true) {
                atoms.add(atom(sign, takesOther, takesColumn));
                if (!here().matches("[-+*]")) {
                    return atoms;
                }
                sign = here().charAt(0);
                at++;
            }
        }

        Atom atom(char sign, boolean takesOther, boolean takesColumn) {
            String word = here();
            if (isColumn()) {
                need(takesColumn, 3);
                return new Atom(sign, "column", column());
            }
            if (word.equals("other")) {
                need(takesOther, 3);
                at++;
                return new Atom(sign, "other", column());
            }
            if (word.equals("sum") || word.equals("least") || word.equals("most")) {
                at++;
                return new Atom(sign, word, column());
            }
            if (word.equals("count")) {
                at++;
                return new Atom(sign, word, 0);
            }
            return new Atom(sign, "number", signed());
        }
    }

    /** The first key with two alike: {index, less place, other place}. */
    static int[] clash(Told t, TreeMap<Integer, int[]> rows) {
        for (int i = 0; i < t.indexes.size(); i++) {
            if (!t.indexes.get(i).isKey()) {
                continue;
            }
            for (int p : rows.keySet()) {
                for (int q : rows.tailMap(p, false).keySet()) {
                    boolean alike = true;
                    for (int c : t.indexes.get(i).columns()) {
                        alike &= rows.get(p)[c] == rows.get(q)[c];
                    }
                    if (alike) {
                        return new int[] {i, p, q};
                    }
                }
            }
        }
        return null;
    }

    // ---- runs

    @SuppressWarnings("serial")
    static final class Ended extends RuntimeException {
    }

    static final class Item {
        Integer place;
        int[] other;
        TreeMap<Integer, Integer> made;
        boolean isGone;
    }

    interface Step {
        void take(Item item);

        default void close() {
        }
    }

    static final class Run {
        final Told t;
        final Stmt s;
        final TreeMap<Integer, int[]> rows;
        int written;
        int end;
        int told = NONE;
        int toldMore = NONE;
        final TreeMap<Integer, Integer> touched = new TreeMap<>();
        final List<Item> log = new ArrayList<>();
        int reads;

        Run(Told t, Stmt s, int path, int stage, TreeMap<Integer, int[]> base) {
            this.t = t;
            this.s = s;
            this.rows = copy(base);
            try {
                lookForDoubles();
                Step write = this::write;
                Step make = maker(stage == 3 ? spool(write) : write);
                Step test = tester(stage == 2 ? spool(make) : make);
                Step first = stage == 1 ? spool(test) : test;
                readAll(path, first);
                first.close();
            } catch (Ended e) {
                return;
            }
            int[] clash = clash(t, rows);
            if (clash != null) {
                end = 5;
                told = clash[0];
                toldMore = 100 * clash[1] + clash[2];
            }
        }

        int early() {
            return end == 5 ? 0 : end;
        }

        Ended ends(int how, int a, int b) {
            end = how;
            told = a;
            toldMore = b;
            return new Ended();
        }

        void lookForDoubles() {
            if (!s.isMerge() || s.match.equals("keep")) {
                return;
            }
            for (int p : rows.keySet()) {
                List<Integer> matching = new ArrayList<>();
                for (int o = 0; o < t.others.size(); o++) {
                    if (t.others.get(o)[s.theirs] == rows.get(p)[s.own]) {
                        matching.add(o);
                    }
                }
                if (matching.size() > 1) {
                    throw ends(1, p, 100 * matching.get(0) + matching.get(1));
                }
            }
        }

        Step spool(Step behind) {
            List<Item> held = new ArrayList<>();
            return new Step() {
                public void take(Item item) {
                    held.add(item);
                }

                public void close() {
                    for (Item item : held) {
                        if (item.place == null || rows.containsKey(item.place)) {
                            behind.take(item);
                        }
                    }
                    behind.close();
                }
            };
        }

        Step tester(Step behind) {
            return new Step() {
                public void take(Item item) {
                    if (s.isMerge() || allHold(t, s, rows, item.place)) {
                        behind.take(item);
                    }
                }

                public void close() {
                    behind.close();
                }
            };
        }

        Step maker(Step behind) {
            return new Step() {
                public void take(Item item) {
                    if (item.place != null && s.match.equals("keep")) {
                        return;
                    }
                    make(item);
                    behind.take(item);
                }

                public void close() {
                    behind.close();
                }
            };
        }

        void make(Item item) {
            item.made = new TreeMap<>();
            boolean isNew = item.place == null || s.verb.equals("insert");
            if (isNew) {
                for (int c = 0; c < t.columns; c++) {
                    item.made.put(c, worth(s.values.get(c), rows, item.place, item.other));
                }
            } else if (s.removes()) {
                item.isGone = true;
            } else {
                for (int c : s.sets.keySet()) {
                    item.made.put(c, worth(s.sets.get(c), rows, item.place, item.other));
                }
            }
            for (Map.Entry<Integer, Integer> e : item.made.entrySet()) {
                if (Math.abs((long) e.getValue()) > 9999) {
                    throw ends(2, item.place == null ? NONE : item.place, e.getKey());
                }
            }
        }

        void write(Item item) {
            Integer place = target(item, rows);
            if (place == null) {
                throw ends(3, NONE, NONE);
            }
            if (written == 200) {
                throw ends(4, NONE, NONE);
            }
            put(item, rows);
            written++;
            touched.merge(place, 1, Integer::sum);
            log.add(item);
        }

        Integer target(Item item, TreeMap<Integer, int[]> into) {
            if (item.place != null && !s.verb.equals("insert")) {
                return item.place;
            }
            for (int p = 0; p < 30; p++) {
                if (!into.containsKey(p)) {
                    return p;
                }
            }
            return null;
        }

        void put(Item item, TreeMap<Integer, int[]> into) {
            Integer place = target(item, into);
            if (item.isGone) {
                into.remove(place);
                return;
            }
            int[] row = into.containsKey(place) ? into.get(place).clone() : new int[t.columns];
            item.made.forEach((c, n) -> row[c] = n);
            into.put(place, row);
        }

        void readAll(int path, Step first) {
            if (!s.isMerge()) {
                readAlong(path, range(t, s, path), item -> first.take(item), null);
                return;
            }
            for (int[] other : t.others) {
                int wanted = other[s.theirs];
                boolean narrow = path > 0 && t.indexes.get((path - 1) / 2).columns().get(0) == s.own;
                int[] range = narrow ? new int[] {wanted, wanted} : new int[] {-9999, 9999};
                boolean[] met = new boolean[1];
                readAlong(path, range, item -> {
                    if (rows.get(item.place)[s.own] == wanted) {
                        met[0] = true;
                        first.take(item);
                    }
                }, other);
                if (!met[0] && !s.values.isEmpty()) {
                    Item fresh = new Item();
                    fresh.other = other;
                    first.take(fresh);
                }
            }
        }

        void readAlong(int path, int[] range, Step each, int[] other) {
            Comparator<int[]> by = order(t, path);
            int[] last = null;
            while (true) {
                int[] next = null;
                for (Map.Entry<Integer, int[]> e : rows.entrySet()) {
                    int[] stand = stand(e.getKey(), e.getValue());
                    boolean inside = path == 0 || stand[1 + t.indexes.get((path - 1) / 2).columns().get(0)] >= range[0]
                            && stand[1 + t.indexes.get((path - 1) / 2).columns().get(0)] <= range[1];
                    if (inside && (last == null || by.compare(stand, last) > 0)
                            && (next == null || by.compare(stand, next) < 0)) {
                        next = stand;
                    }
                }
                if (next == null) {
                    return;
                }
                last = next;
                reads++;
                Item item = new Item();
                item.place = next[0];
                item.other = other;
                each.take(item);
            }
        }

        int twice() {
            return (int) touched.values().stream().filter(n -> n > 1).count();
        }
    }

    static int[] stand(int place, int[] row) {
        int[] stand = new int[row.length + 1];
        stand[0] = place;
        System.arraycopy(row, 0, stand, 1, row.length);
        return stand;
    }

    static Comparator<int[]> order(Told t, int path) {
        Comparator<int[]> by = Comparator.comparingInt(x -> 0);
        if (path > 0) {
            for (int c : t.indexes.get((path - 1) / 2).columns()) {
                by = by.thenComparingInt(x -> x[1 + c]);
            }
        }
        by = by.thenComparingInt(x -> x[0]);
        return path > 0 && path % 2 == 0 ? by.reversed() : by;
    }

    static int[] range(Told t, Stmt s, int path) {
        int[] range = {-9999, 9999};
        if (path == 0) {
            return range;
        }
        Atom wanted = new Atom('+', "column", t.indexes.get((path - 1) / 2).columns().get(0));
        for (Test test : s.tests) {
            if (!test.left().equals(List.of(wanted)) || test.right().size() != 1
                    || !test.right().get(0).kind().equals("number")) {
                continue;
            }
            int n = test.right().get(0).arg();
            int low = test.sign() == '<' ? -9999 : test.sign() == '=' ? n : n + 1;
            int high = test.sign() == '>' ? 9999 : test.sign() == '=' ? n : n - 1;
            range[0] = Math.max(range[0], low);
            range[1] = Math.min(range[1], high);
        }
        return range;
    }

    static boolean allHold(Told t, Stmt s, TreeMap<Integer, int[]> rows, int place) {
        for (Test test : s.tests) {
            int order = Integer.compare(worth(test.left(), rows, place, null), worth(test.right(), rows, place, null));
            if (order != test.sign() - '=') {
                return false;
            }
        }
        return true;
    }

    static int worth(List<Atom> atoms, TreeMap<Integer, int[]> rows, Integer place, int[] other) {
        int total = 0;
        for (Atom a : atoms) {
            int n = switch (a.kind()) {
                case "number" -> a.arg();
                case "column" -> rows.get(place)[a.arg()];
                case "other" -> other[a.arg()];
                case "sum" -> rows.values().stream().mapToInt(r -> r[a.arg()]).sum();
                case "least" -> rows.values().stream().mapToInt(r -> r[a.arg()]).min().orElse(0);
                case "most" -> rows.values().stream().mapToInt(r -> r[a.arg()]).max().orElse(0);
                default -> rows.size();
            };
            total = a.sign() == '*' ? total * n : a.sign() == '-' ? total - n : total + n;
        }
        return total;
    }

    static TreeMap<Integer, int[]> copy(TreeMap<Integer, int[]> rows) {
        TreeMap<Integer, int[]> copy = new TreeMap<>();
        rows.forEach((p, r) -> copy.put(p, r.clone()));
        return copy;
    }

    static int otherwise(Run right, Run run) {
        List<List<Integer>> left = new ArrayList<>();
        run.rows.values().forEach(r -> left.add(listed(r)));
        int lacking = 0;
        for (int[] r : right.rows.values()) {
            if (!left.remove(listed(r))) {
                lacking++;
            }
        }
        return lacking;
    }

    static List<Integer> listed(int[] row) {
        List<Integer> list = new ArrayList<>();
        for (int n : row) {
            list.add(n);
        }
        return list;
    }

    // ---- plans

    /** 0 not moved, -1 less, 1 more, 2 otherwise. */
    static int moved(List<Atom> value, int column) {
        Atom self = new Atom('+', "column", column);
        if (value == null || value.equals(List.of(self))) {
            return 0;
        }
        boolean isStep = value.size() == 2 && value.get(0).equals(self) && value.get(1).kind().equals("number")
                && value.get(1).sign() != '*';
        return isStep ? Integer.signum(worth(value.subList(1, 2), null, null, null)) : 2;
    }

    static int reasons(Told t, Stmt s, int path) {
        int bits = 0;
        List<Integer> columns = path == 0 ? List.of() : t.indexes.get((path - 1) / 2).columns();
        boolean inserts = !s.values.isEmpty();
        if (s.isMerge()) {
            boolean met = inserts || s.sets.containsKey(s.own);
            for (int c : columns) {
                met |= s.sets.containsKey(c);
            }
            bits |= met ? 1 : 0;
        } else if (!s.verb.equals("delete")) {
            int back = path % 2 == 1 ? -1 : 1;
            int motion = 0;
            for (int c : columns) {
                if (motion == 0) {
                    motion = moved(s.verb.equals("insert") ? s.values.get(c) : s.sets.get(c), c);
                }
            }
            boolean stays = motion == 0;
            if (s.verb.equals("insert") ? path == 0 || stays || motion != back : !stays && motion != back) {
                bits |= 1;
            }
        }
        boolean all = inserts || s.removes();
        for (Test test : s.tests) {
            if (asks(s, test.left(), all) || asks(s, test.right(), all)) {
                bits |= 2;
            }
        }
        List<List<Atom>> makes = new ArrayList<>(s.sets.values());
        makes.addAll(s.values);
        for (List<Atom> value : makes) {
            if (asks(s, value, all)) {
                bits |= 4;
            }
        }
        return bits;
    }

    static boolean asks(Stmt s, List<Atom> value, boolean all) {
        for (Atom a : value) {
            boolean ofColumn = Set.of("sum", "least", "most").contains(a.kind());
            if (ofColumn && (all || s.sets.containsKey(a.arg())) || all && a.kind().equals("count")) {
                return true;
            }
        }
        return false;
    }

    /** {reasons, stage, held, read}. */
    static int[] plan(Told t, Stmt s, int path, TreeMap<Integer, int[]> rows) {
        int read = 0;
        int matches = 0;
        int fresh = 0;
        if (!s.isMerge()) {
            int[] range = range(t, s, path);
            for (int p : rows.keySet()) {
                int first = path == 0 ? 0 : rows.get(p)[t.indexes.get((path - 1) / 2).columns().get(0)];
                if (path == 0 || first >= range[0] && first <= range[1]) {
                    read++;
                    matches += allHold(t, s, rows, p) ? 1 : 0;
                }
            }
        } else {
            for (int[] other : t.others) {
                int here = 0;
                for (int[] r : rows.values()) {
                    here += r[s.own] == other[s.theirs] ? 1 : 0;
                }
                matches += here;
                fresh += here == 0 && !s.values.isEmpty() ? 1 : 0;
                boolean narrow = path > 0 && t.indexes.get((path - 1) / 2).columns().get(0) == s.own;
                read += narrow ? here : rows.size();
            }
        }
        int perMatch = s.verb.equals("insert") ? 1 + t.columns : s.removes() ? 1 : s.match.equals("keep") ? 0 : 1 + s.sets.size();
        int[] held = {0, s.isMerge() ? matches + fresh : read, matches + fresh, matches * perMatch + fresh * (1 + t.columns)};
        int reasons = reasons(t, s, path);
        Set<Integer> stages = new TreeSet<>(Set.of(1, 2, 3));
        if (reasons == 0) {
            stages = Set.of(0);
        } else if ((reasons & 4) != 0) {
            stages = Set.of(3);
        } else if ((reasons & 2) != 0) {
            stages.remove(1);
        }
        int best = NONE;
        for (int stage : stages) {
            if (best == NONE || held[stage] < held[best]) {
                best = stage;
            }
        }
        return new int[] {reasons, best, held[best], read};
    }

    // ---- the face

    private final StringBuilder tape = new StringBuilder();
    private int fault = NONE;
    private Told told = new Told();
    private TreeMap<Integer, int[]> rows = new TreeMap<>();
    private Deque<TreeMap<Integer, int[]>> acts = new ArrayDeque<>();
    private List<int[]> seen = new ArrayList<>();
    private int[] status = new int[3];
    private TreeMap<Integer, int[]> imageRows;
    private Deque<TreeMap<Integer, int[]>> imageActs;
    private List<int[]> imageSeen;
    private int[] imageStatus;

    static void exists(boolean isSo) {
        if (!isSo) {
            throw new NoSuchElementException();
        }
    }

    Stmt stmt(int n) {
        exists(n >= 0 && n < told.stmts.size());
        return told.stmts.get(n);
    }

    int path(int n) {
        exists(n >= 0 && n <= 2 * told.indexes.size());
        return n;
    }

    Run rightRun(Stmt s) {
        return new Run(told, s, 0, 3, rows);
    }

    int feed(int a, int b, int c, int d, int e) {
        if (tape.length() > 880) {
            return NONE;
        }
        for (int n : new int[] {a, b, c, d, e}) {
            for (int i = 3; i >= 0; i--) {
                tape.append((char) (n >> 8 * i & 255));
            }
        }
        return tape.length();
    }

    int table(int n) {
        if (n < 0 || n > tape.length()) {
            throw new IllegalArgumentException();
        }
        String text = tape.substring(0, n);
        tape.setLength(0);
        try {
            told = new Reader(text).read();
        } catch (Fault f) {
            status[0]++;
            fault = f.place;
            return f.kind;
        }
        fault = NONE;
        rows = copy(told.rows);
        acts = new ArrayDeque<>();
        seen = new ArrayList<>();
        imageRows = null;
        return 0;
    }

    int fault() {
        return fault;
    }

    int count(int what) {
        int keys = 0;
        for (int i = 0; i < told.indexes.size(); i++) {
            keys += told.indexes.get(i).isKey() ? 1 << i : 0;
        }
        int[] all = {told.columns, rows.size(), told.indexes.size(), keys, told.others.size(), told.stmts.size(),
            1 + 2 * told.indexes.size(), acts.size(), seen.size(), tape.length(), status[0], status[1], status[2]};
        exists(what >= 0 && what < all.length);
        return all[what];
    }

    void needCell(int place, int column) {
        exists(place >= 0 && place < 30 && column >= 0 && column < told.columns);
    }

    static int at(TreeMap<Integer, int[]> rows, int place, int column) {
        return rows.containsKey(place) ? rows.get(place)[column] : HIDDEN;
    }

    int cell(int place, int column) {
        needCell(place, column);
        return at(rows, place, column);
    }

    int along(int path, int i) {
        path(path);
        exists(i >= 0 && i < rows.size());
        List<int[]> all = new ArrayList<>();
        rows.forEach((p, r) -> all.add(stand(p, r)));
        all.sort(order(told, path));
        return all.get(i)[0];
    }

    int right(int statement, int what) {
        Stmt s = stmt(statement);
        exists(what >= 0 && what < 4);
        Run run = rightRun(s);
        return new int[] {run.written, run.end, run.told, run.toldMore}[what];
    }

    int plan(int statement, int path, int what) {
        Stmt s = stmt(statement);
        path(path);
        exists(what >= 0 && what < 4);
        return plan(told, s, path, rows)[what];
    }

    int goes(int statement, int path, int stage, int what) {
        Stmt s = stmt(statement);
        path(path);
        exists(stage >= 0 && stage < 4 && what >= 0 && what < 4);
        Run run = new Run(told, s, path, stage, rows);
        return new int[] {otherwise(rightRun(s), run), run.early(), run.written, run.twice()}[what];
    }

    int wrongPaths(int statement) {
        Stmt s = stmt(statement);
        Run right = rightRun(s);
        int bits = 0;
        for (int path = 0; path <= 2 * told.indexes.size(); path++) {
            Run run = new Run(told, s, path, 0, rows);
            bits += run.early() != right.early() || otherwise(right, run) > 0 ? 1 << path : 0;
        }
        return bits;
    }

    int cheapest(int statement, int what) {
        Stmt s = stmt(statement);
        exists(what == 0 || what == 1);
        int[] best = {NONE, 0};
        for (int path = 0; path <= 2 * told.indexes.size(); path++) {
            int[] plan = plan(told, s, path, rows);
            if (best[0] == NONE || plan[2] + plan[3] < best[1]) {
                best = new int[] {path, plan[2] + plan[3]};
            }
        }
        return best[what];
    }

    int clashes(int statement) {
        Run right = rightRun(stmt(statement));
        TreeMap<Integer, int[]> way = copy(rows);
        int found = 0;
        for (Item item : right.log) {
            right.put(item, way);
            if (item != right.log.get(right.log.size() - 1) && clash(told, way) != null) {
                found++;
            }
        }
        return found;
    }

    int order(int statement, int i) {
        Run right = rightRun(stmt(statement));
        List<Integer> order = right.end == 0 ? new ArrayList<>() : null;
        TreeMap<Integer, int[]> way = copy(rows);
        while (order != null && order.size() < right.log.size()) {
            int before = order.size();
            for (int k = 0; k < right.log.size() && order.size() == before; k++) {
                if (order.contains(k)) {
                    continue;
                }
                TreeMap<Integer, int[]> tried = copy(way);
                right.put(right.log.get(k), tried);
                if (clash(told, tried) == null) {
                    order.add(k);
                    way = tried;
                }
            }
            if (order.size() == before) {
                order = null;
            }
        }
        if (i == NONE) {
            return order == null ? NONE : order.size();
        }
        exists(order != null && i >= 0 && i < order.size());
        return order.get(i);
    }

    void act(TreeMap<Integer, int[]> next) {
        acts.addLast(rows);
        if (acts.size() > 40) {
            acts.removeFirst();
        }
        rows = next;
    }

    int run(int statement) {
        Run right = rightRun(stmt(statement));
        if (right.end != 0) {
            status[1]++;
            return -1 - right.end;
        }
        act(right.rows);
        return right.written;
    }

    TreeMap<Integer, int[]> laid(TreeMap<Integer, int[]> base, int place, int column, int number) {
        if (!base.containsKey(place) || Math.abs((long) number) > 9999) {
            return null;
        }
        TreeMap<Integer, int[]> next = copy(base);
        next.get(place)[column] = number;
        return clash(told, next) == null ? next : null;
    }

    int lay(int place, int column, int number) {
        needCell(place, column);
        TreeMap<Integer, int[]> next = laid(rows, place, column, number);
        if (next == null) {
            status[1]++;
            return HIDDEN;
        }
        int before = rows.get(place)[column];
        act(next);
        return before;
    }

    int take(int place) {
        exists(place >= 0 && place < 30);
        if (!rows.containsKey(place)) {
            status[1]++;
            return NONE;
        }
        TreeMap<Integer, int[]> next = copy(rows);
        next.remove(place);
        act(next);
        return rows.size();
    }

    int undo() {
        if (acts.isEmpty()) {
            return NONE;
        }
        rows = acts.removeLast();
        return acts.size();
    }

    int see(int place, int column, int number) {
        boolean can = seen.size() < 8 && place >= 0 && place < 30 && column >= 0 && column < told.columns
                && (number == HIDDEN || Math.abs((long) number) <= 9999);
        if (!can) {
            status[2]++;
            return NONE;
        }
        seen.add(new int[] {place, column, number});
        return seen.size();
    }

    TreeMap<Integer, TreeMap<Integer, int[]>> fitting() {
        TreeMap<Integer, TreeMap<Integer, int[]>> fitting = new TreeMap<>();
        for (int i = 0; i < told.stmts.size(); i++) {
            Run right = rightRun(told.stmts.get(i));
            TreeMap<Integer, int[]> behind = right.end == 0 ? right.rows : rows;
            if (seen.stream().allMatch(x -> at(behind, x[0], x[1]) == x[2])) {
                fitting.put(i, behind);
            }
        }
        return fitting;
    }

    int fits() {
        return fitting().keySet().stream().mapToInt(i -> 1 << i).sum();
    }

    int look(int what) {
        exists(what == 0 || what == 1);
        int which = NONE;
        int most = 0;
        TreeMap<Integer, TreeMap<Integer, int[]>> fitting = fitting();
        for (int key = 0; key < 300; key++) {
            if (key % 10 >= told.columns) {
                continue;
            }
            Set<Integer> numbers = new HashSet<>();
            for (TreeMap<Integer, int[]> behind : fitting.values()) {
                numbers.add(at(behind, key / 10, key % 10));
            }
            if (numbers.size() > most) {
                most = numbers.size();
                which = key;
            }
        }
        return what == 0 ? which : most;
    }

    void forget() {
        seen.clear();
    }

    private long seed;

    int draw(int n) {
        seed = (seed * 1103515245L + 12345L) & 0xffffffffL;
        return (int) ((seed & 0x7fffffffL) / 65536 % n);
    }

    int years(int first, int n, int what) {
        exists(what >= 0 && what < 3);
        if (n < 0 || n > 20) {
            throw new IllegalArgumentException();
        }
        seed = first & 0xffffffffL;
        TreeMap<Integer, int[]> then = copy(rows);
        int written = 0;
        int unwell = 0;
        for (int i = 0; i < n; i++) {
            if (draw(3) < 2) {
                if (told.stmts.isEmpty()) {
                    continue;
                }
                Run run = new Run(told, told.stmts.get(draw(told.stmts.size())), 0, 3, then);
                if (run.end == 0) {
                    written += run.written;
                    then = run.rows;
                } else {
                    unwell++;
                }
            } else {
                int place = draw(30);
                int column = draw(told.columns);
                TreeMap<Integer, int[]> next = laid(then, place, column, draw(10));
                then = next == null ? then : next;
            }
        }
        return new int[] {written, unwell, then.size()}[what];
    }

    void image() {
        imageRows = copy(rows);
        imageActs = new ArrayDeque<>(acts);
        imageSeen = new ArrayList<>(seen);
        imageStatus = status.clone();
    }

    boolean restore() {
        if (imageRows == null) {
            return false;
        }
        rows = copy(imageRows);
        acts = new ArrayDeque<>(imageActs);
        seen = new ArrayList<>(imageSeen);
        status = imageStatus.clone();
        return true;
    }
}
