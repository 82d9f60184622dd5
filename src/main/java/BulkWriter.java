import java.util.NoSuchElementException;

/** A TABLE and the STATEMENTS that change many of its ROWS at once; README.md tells how it is used. */
public final class BulkWriter {
    public static final int NONE = -1;
    public static final int HIDDEN = -100000;

    private static final int TEXT = 900;
    private static final int FED = 20;
    private static final int PLACES = 30;
    private static final int WIDTH = 4;
    private static final int INDEXES = 3;
    private static final int OTHERS = 10;
    private static final int STATEMENTS = 8;
    private static final int ACTS = 40;
    private static final int SEEN = 8;
    private static final int LIMIT = 9999;
    private static final int YEARS = 20;
    private static final int STAGES = 4;
    private static final int MAKING = 3;

    private static final int WELL = 0;
    private static final int DOUBLE = 1;
    private static final int OVER = 2;
    private static final int FULL = 3;
    private static final int ENDLESS = 4;
    private static final int CLASH = 5;
    private static final int MOST_WRITES = 200;

    private static final int TEXTS_REFUSED = 0;
    private static final int ACTS_REFUSED = 1;
    private static final int SEEN_REFUSED = 2;

    // What a MATCH, or a ROW that holds, becomes.
    private static final int SET = 0;
    private static final int GONE = 1;
    private static final int KEPT = 2;
    private static final int COPIED = 3;

    // Kinds of TOKENS; a sign is its own byte. Some are kinds of ATOMS, too.
    private static final int NUMBER = 128;
    private static final int LONG_NUMBER = 129;
    private static final int COLUMN = 130;
    private static final int BAD = 131;
    private static final int TEXT_END = 132;
    private static final int WORD = 200;
    private static final int COLUMNS_WORD = 200;
    private static final int ROW_WORD = 201;
    private static final int OTHER_WORD = 202;
    private static final int KEY_WORD = 203;
    private static final int INDEX_WORD = 204;
    private static final int UPDATE_WORD = 205;
    private static final int DELETE_WORD = 206;
    private static final int INSERT_WORD = 207;
    private static final int MERGE_WORD = 208;
    private static final int SET_WORD = 209;
    private static final int KEEP_WORD = 210;
    private static final int SUM_WORD = 211;
    private static final int LEAST_WORD = 212;
    private static final int MOST_WORD = 213;
    private static final int COUNT_WORD = 214;
    private static final int WHERE_WORD = 215;
    private static final int AND_WORD = 216;
    // In the order of their kinds, each with a blank behind it.
    private static final String WORDS =
            "columns row other key index update delete insert merge set keep sum least most count where and ";

    private final byte[] tape = new byte[TEXT];
    private int taped;
    private int faultPlace = NONE;
    private final Parser parser;
    private Script script = new Script();
    private Script spare = new Script();
    private final State now = new State();
    private final State kept = new State();
    private boolean hasImage;
    private final Pass rightPass;
    private final Pass otherPass;
    private final Planner planner = new Planner();
    private final Cursor walk = new Cursor();
    private final Rows scratch = new Rows();
    private final Rows[] behind = new Rows[STATEMENTS];
    private final int[] sequence = new int[Pass.SLOTS];

    public BulkWriter() {
        parser = new Parser(spare);
        rightPass = new Pass(script);
        otherPass = new Pass(script);
        for (int i = 0; i < STATEMENTS; i++) {
            behind[i] = new Rows();
        }
    }

    public int feed(int a, int b, int c, int d, int e) {
        if (taped + FED > TEXT) {
            return NONE;
        }
        tapeNumber(a);
        tapeNumber(b);
        tapeNumber(c);
        tapeNumber(d);
        tapeNumber(e);
        return taped;
    }

    public int table(int n) throws IllegalArgumentException {
        if (n < 0 || n > taped) {
            throw new IllegalArgumentException("the tape has not so many bytes");
        }
        taped = 0;
        int kind = parser.parse(tape, n, spare);
        faultPlace = parser.faultPlace;
        if (kind != 0) {
            now.status[TEXTS_REFUSED]++;
            return kind;
        }
        Script old = script;
        script = spare;
        spare = old;
        now.begin(script.told);
        hasImage = false;
        return 0;
    }

    public int fault() {
        return faultPlace;
    }

    public int count(int what) throws NoSuchElementException {
        switch (what) {
            case 0: return script.columns;
            case 1: return now.rows.size();
            case 2: return script.indexCount;
            case 3: return script.keys;
            case 4: return script.otherCount;
            case 5: return script.statementCount;
            case 6: return script.paths();
            case 7: return now.acts.kept;
            case 8: return now.seenCount;
            case 9: return taped;
            case 10: return now.status[TEXTS_REFUSED];
            case 11: return now.status[ACTS_REFUSED];
            case 12: return now.status[SEEN_REFUSED];
            default: throw new NoSuchElementException("no such count");
        }
    }

    public int cell(int place, int column) throws NoSuchElementException {
        checkCell(place, column);
        return now.rows.get(place, column);
    }

    public int along(int path, int i) throws NoSuchElementException {
        checkPath(path);
        if (i < 0 || i >= now.rows.size()) {
            throw new NoSuchElementException("no such row of the path");
        }
        walk.start(script, path);
        int place = NONE;
        for (int k = 0; k <= i; k++) {
            place = walk.next(now.rows);
        }
        return place;
    }

    public int right(int statement, int what) throws NoSuchElementException {
        checkStatement(statement);
        checkWhat(what, 4);
        goRight(statement, now.rows);
        switch (what) {
            case 0: return rightPass.written;
            case 1: return rightPass.end;
            case 2: return rightPass.told;
            default: return rightPass.toldMore;
        }
    }

    public int plan(int statement, int path, int what) throws NoSuchElementException {
        checkStatement(statement);
        checkPath(path);
        checkWhat(what, 4);
        planner.decide(script, script.statement(statement), path, now.rows);
        switch (what) {
            case 0: return planner.reasons;
            case 1: return planner.stage;
            case 2: return planner.held;
            default: return planner.reads;
        }
    }

    public int goes(int statement, int path, int stage, int what) throws NoSuchElementException {
        checkStatement(statement);
        checkPath(path);
        checkWhat(stage, STAGES);
        checkWhat(what, 4);
        otherPass.perform(script, statement, path, stage, now.rows);
        switch (what) {
            case 0:
                goRight(statement, now.rows);
                return rightPass.rows.lacking(otherPass.rows, script.columns);
            case 1: return otherPass.earlyEnd();
            case 2: return otherPass.written;
            default: return otherPass.twice();
        }
    }

    public int wrongPaths(int statement) throws NoSuchElementException {
        checkStatement(statement);
        goRight(statement, now.rows);
        int bits = 0;
        for (int path = 0; path < script.paths(); path++) {
            otherPass.perform(script, statement, path, 0, now.rows);
            if (otherPass.earlyEnd() != rightPass.earlyEnd()
                    || rightPass.rows.lacking(otherPass.rows, script.columns) > 0) {
                bits |= 1 << path;
            }
        }
        return bits;
    }

    public int cheapest(int statement, int what) throws NoSuchElementException {
        checkStatement(statement);
        checkWhat(what, 2);
        int best = 0;
        int least = 0;
        for (int path = 0; path < script.paths(); path++) {
            planner.decide(script, script.statement(statement), path, now.rows);
            int cost = planner.reads + planner.held;
            if (path == 0 || cost < least) {
                least = cost;
                best = path;
            }
        }
        return what == 0 ? best : least;
    }

    public int clashes(int statement) throws NoSuchElementException {
        checkStatement(statement);
        goRight(statement, now.rows);
        scratch.copyFrom(now.rows);
        int found = 0;
        for (int i = 0; i < rightPass.written - 1; i++) {
            rightPass.applyTo(scratch, i);
            if (script.firstClash(scratch) != NONE) {
                found++;
            }
        }
        return found;
    }

    public int order(int statement, int i) throws NoSuchElementException {
        checkStatement(statement);
        goRight(statement, now.rows);
        int length = findOrder();
        if (i == NONE) {
            return length;
        }
        if (i < 0 || i >= length || i >= sequence.length) {
            throw new NoSuchElementException("no such write of the order");
        }
        return sequence[i];
    }

    public int run(int statement) throws NoSuchElementException {
        checkStatement(statement);
        goRight(statement, now.rows);
        if (rightPass.end != WELL) {
            now.status[ACTS_REFUSED]++;
            return NONE - rightPass.end;
        }
        now.acts.push(now.rows);
        now.rows.copyFrom(rightPass.rows);
        return rightPass.written;
    }

    public int lay(int place, int column, int number) throws NoSuchElementException {
        checkCell(place, column);
        int before = now.rows.get(place, column);
        scratch.copyFrom(now.rows);
        if (!canHold(number) || !putByHand(scratch, place, column, number)) {
            now.status[ACTS_REFUSED]++;
            return HIDDEN;
        }
        now.acts.push(now.rows);
        now.rows.copyFrom(scratch);
        return before;
    }

    public int take(int place) throws NoSuchElementException {
        checkPlace(place);
        if (!now.rows.has(place)) {
            now.status[ACTS_REFUSED]++;
            return NONE;
        }
        now.acts.push(now.rows);
        now.rows.drop(place);
        return now.rows.size();
    }

    public int undo() {
        if (now.acts.kept == 0) {
            return NONE;
        }
        now.acts.pop(now.rows);
        return now.acts.kept;
    }

    public int see(int place, int column, int number) {
        boolean known = isPlace(place) && isColumn(column) && (number == HIDDEN || canHold(number));
        if (!known || now.seenCount >= SEEN) {
            now.status[SEEN_REFUSED]++;
            return NONE;
        }
        now.addSeen(place, column, number);
        return now.seenCount;
    }

    public int fits() {
        int bits = 0;
        for (int s = 0; s < script.statementCount; s++) {
            if (fitsBehind(s)) {
                bits |= 1 << s;
            }
        }
        return bits;
    }

    public int look(int what) throws NoSuchElementException {
        checkWhat(what, 2);
        int fitting = 0;
        for (int s = 0; s < script.statementCount && s < STATEMENTS; s++) {
            if (fitsBehind(s)) {
                behind[fitting].copyFrom(scratch);
                fitting++;
            }
        }
        int which = NONE;
        int most = 0;
        for (int place = 0; place < PLACES; place++) {
            for (int column = 0; column < script.columns; column++) {
                int unlike = unlikeAt(place, column, fitting);
                if (unlike > most) {
                    most = unlike;
                    which = 10 * place + column;
                }
            }
        }
        return what == 0 ? which : most;
    }

    public void forget() {
        now.seenCount = 0;
    }

    public int years(int seed, int n, int what) throws NoSuchElementException, IllegalArgumentException {
        checkWhat(what, 3);
        if (n < 0 || n > YEARS) {
            throw new IllegalArgumentException("not so many years");
        }
        scratch.copyFrom(now.rows);
        int written = 0;
        int unwell = 0;
        int chance = seed;
        for (int year = 0; year < n; year++) {
            chance = stirred(chance);
            if (drawn(chance, 3) == 2) {
                chance = stirred(chance);
                int place = drawn(chance, PLACES);
                chance = stirred(chance);
                int column = drawn(chance, script.columns);
                chance = stirred(chance);
                putByHand(scratch, place, column, drawn(chance, 10));
            } else if (script.statementCount > 0) {
                chance = stirred(chance);
                goRight(drawn(chance, script.statementCount), scratch);
                if (rightPass.end == WELL) {
                    written += rightPass.written;
                    scratch.copyFrom(rightPass.rows);
                } else {
                    unwell++;
                }
            }
        }
        return what == 0 ? written : what == 1 ? unwell : scratch.size();
    }

    public void image() {
        kept.copyFrom(now);
        hasImage = true;
    }

    public boolean restore() {
        if (hasImage) {
            now.copyFrom(kept);
        }
        return hasImage;
    }

    private void tapeNumber(int number) {
        for (int shift = 24; shift >= 0 && taped < TEXT; shift -= 8) {
            tape[taped] = (byte) (number >>> shift);
            taped++;
        }
    }

    private void checkStatement(int statement) {
        if (statement < 0 || statement >= script.statementCount) {
            throw new NoSuchElementException("no such statement");
        }
    }

    private void checkPath(int path) {
        if (path < 0 || path >= script.paths()) {
            throw new NoSuchElementException("no such path");
        }
    }

    private void checkPlace(int place) {
        if (!isPlace(place)) {
            throw new NoSuchElementException("no such place");
        }
    }

    private void checkCell(int place, int column) {
        if (!isPlace(place) || !isColumn(column)) {
            throw new NoSuchElementException("no such place or column");
        }
    }

    private static void checkWhat(int what, int bound) {
        if (what < 0 || what >= bound) {
            throw new NoSuchElementException("nothing is told by this number");
        }
    }

    private static boolean isPlace(int place) {
        return place >= 0 && place < PLACES;
    }

    private boolean isColumn(int column) {
        return column >= 0 && column < script.columns;
    }

    private static boolean canHold(int number) {
        return number >= -LIMIT && number <= LIMIT;
    }

    private void goRight(int statement, Rows base) {
        rightPass.perform(script, statement, 0, MAKING, base);
    }

    /** Rows are left as they are where the number can't be laid. */
    private boolean putByHand(Rows rows, int place, int column, int number) {
        if (!rows.has(place)) {
            return false;
        }
        int before = rows.get(place, column);
        rows.put(place, column, number);
        if (script.hasTwin(rows, place)) {
            rows.put(place, column, before);
            return false;
        }
        return true;
    }

    /** Leaves the rows behind the statement in scratch; one that doesn't end well leaves them as they are. */
    private boolean fitsBehind(int statement) {
        // Not by goRight: calls would go nine deep.
        rightPass.perform(script, statement, 0, MAKING, now.rows);
        scratch.copyFrom(rightPass.end == WELL ? rightPass.rows : now.rows);
        return now.isSeenIn(scratch);
    }

    /** How many numbers (HIDDEN is one) a cell has in the first of the rows behind statements. */
    private int unlikeAt(int place, int column, int fitting) {
        int unlike = 0;
        for (int i = 0; i < fitting && i < STATEMENTS; i++) {
            int number = behind[i].get(place, column);
            boolean isNew = true;
            for (int k = 0; k < i; k++) {
                if (behind[k].get(place, column) == number) {
                    isNew = false;
                }
            }
            if (isNew) {
                unlike++;
            }
        }
        return unlike;
    }

    /** Writes an order of the latest RIGHT run into sequence: how long it is, NONE if there is none. */
    private int findOrder() {
        if (rightPass.end != WELL) {
            return NONE;
        }
        scratch.copyFrom(now.rows);
        int writes = Math.min(rightPass.written, sequence.length);
        long used = 0;
        for (int step = 0; step < writes; step++) {
            int chosen = firstWritable(writes, used);
            if (chosen == NONE) {
                return NONE;
            }
            sequence[step] = chosen;
            used |= 1L << chosen;
        }
        return writes;
    }

    /** The first write that is not used and makes no clash in scratch, where it is written then. */
    private int firstWritable(int writes, long used) {
        Rows trial = otherPass.rows;
        for (int i = 0; i < writes; i++) {
            if ((used >>> i & 1) == 1) {
                continue;
            }
            trial.copyFrom(scratch);
            int place = rightPass.applyTo(trial, i);
            if (place != NONE && !script.hasTwin(trial, place)) {
                scratch.copyFrom(trial);
                return i;
            }
        }
        return NONE;
    }

    private static int stirred(int seed) {
        return seed * 1103515245 + 12345;
    }

    private static int drawn(int seed, int n) {
        return n > 0 ? (seed >>> 16 & 0x7fff) % n : 0;
    }

    /** Numbers at PLACES, some of which are free. */
    private static final class Rows {
        private final int[] numbers = new int[PLACES * WIDTH];
        private int there;

        void empty() {
            there = 0;
        }

        void copyFrom(Rows from) {
            System.arraycopy(from.numbers, 0, numbers, 0, numbers.length);
            there = from.there;
        }

        void saveTo(int[] store, int offset) {
            if (offset >= 0 && offset <= store.length - numbers.length) {
                System.arraycopy(numbers, 0, store, offset, numbers.length);
            }
        }

        void loadFrom(int[] store, int offset, int places) {
            if (offset >= 0 && offset <= store.length - numbers.length) {
                System.arraycopy(store, offset, numbers, 0, numbers.length);
                there = places;
            }
        }

        boolean has(int place) {
            return place >= 0 && place < PLACES && (there >>> place & 1) == 1;
        }

        int get(int place, int column) {
            if (place < 0 || place >= PLACES || (there >>> place & 1) == 0 || column < 0 || column >= WIDTH) {
                return HIDDEN;
            }
            return numbers[place * WIDTH + column];
        }

        void put(int place, int column, int number) {
            if (place >= 0 && place < PLACES && column >= 0 && column < WIDTH) {
                numbers[place * WIDTH + column] = number;
            }
        }

        void add(int place) {
            if (place >= 0 && place < PLACES) {
                there |= 1 << place;
            }
        }

        void drop(int place) {
            if (place >= 0 && place < PLACES) {
                there &= ~(1 << place);
            }
        }

        int firstFree() {
            for (int place = 0; place < PLACES; place++) {
                if ((there >>> place & 1) == 0) {
                    return place;
                }
            }
            return NONE;
        }

        int size() {
            return Integer.bitCount(there);
        }

        /** What an ATOM asks of all rows: 0 without any. */
        int whole(int kind, int column) {
            if (column < 0 || column >= WIDTH) {
                return 0;
            }
            int result = 0;
            boolean isFirst = true;
            for (int place = 0; place < PLACES; place++) {
                if ((there >>> place & 1) == 0) {
                    continue;
                }
                int number = numbers[place * WIDTH + column];
                if (kind == COUNT_WORD) {
                    result++;
                } else if (kind == SUM_WORD) {
                    result += number;
                } else if (isFirst || (kind == LEAST_WORD ? number < result : number > result)) {
                    result = number;
                }
                isFirst = false;
            }
            return result;
        }

        /** How many of these rows have no row of their own among the others that is alike. */
        int lacking(Rows others, int columns) {
            int unused = others.there;
            int lacking = 0;
            for (int place = 0; place < PLACES; place++) {
                if ((there >>> place & 1) == 0) {
                    continue;
                }
                int twin = NONE;
                for (int k = 0; k < PLACES && twin == NONE; k++) {
                    if ((unused >>> k & 1) == 1 && isLike(place, others, k, columns)) {
                        twin = k;
                    }
                }
                if (twin == NONE) {
                    lacking++;
                } else {
                    unused &= ~(1 << twin);
                }
            }
            return lacking;
        }

        private boolean isLike(int place, Rows others, int otherPlace, int columns) {
            for (int column = 0; column < columns; column++) {
                if (get(place, column) != others.get(otherPlace, column)) {
                    return false;
                }
            }
            return true;
        }
    }

    /** The rows ahead of each of the latest ACTS, in a ring. */
    private static final class History {
        private static final int SIZE = PLACES * WIDTH;
        private final int[] numbers = new int[ACTS * SIZE];
        private final int[] places = new int[ACTS];
        private int next;
        private int kept;

        void empty() {
            next = 0;
            kept = 0;
        }

        void copyFrom(History from) {
            System.arraycopy(from.numbers, 0, numbers, 0, numbers.length);
            System.arraycopy(from.places, 0, places, 0, places.length);
            next = from.next;
            kept = from.kept;
        }

        void push(Rows rows) {
            if (next < 0 || next >= ACTS) {
                return;
            }
            rows.saveTo(numbers, next * SIZE);
            places[next] = rows.there;
            next = (next + 1) % ACTS;
            kept = Math.min(kept + 1, ACTS);
        }

        void pop(Rows rows) {
            int last = (next + ACTS - 1) % ACTS;
            if (kept <= 0 || last < 0) {
                return;
            }
            rows.loadFrom(numbers, last * SIZE, places[last]);
            next = last;
            kept--;
        }
    }

    /** All that an IMAGE keeps. */
    private static final class State {
        private final Rows rows = new Rows();
        private final History acts = new History();
        private final int[] seenPlaces = new int[SEEN];
        private final int[] seenColumns = new int[SEEN];
        private final int[] seenNumbers = new int[SEEN];
        private int seenCount;
        private final int[] status = new int[3];

        void begin(Rows told) {
            rows.copyFrom(told);
            acts.empty();
            seenCount = 0;
        }

        void copyFrom(State from) {
            rows.copyFrom(from.rows);
            acts.copyFrom(from.acts);
            System.arraycopy(from.seenPlaces, 0, seenPlaces, 0, SEEN);
            System.arraycopy(from.seenColumns, 0, seenColumns, 0, SEEN);
            System.arraycopy(from.seenNumbers, 0, seenNumbers, 0, SEEN);
            seenCount = from.seenCount;
            System.arraycopy(from.status, 0, status, 0, status.length);
        }

        void addSeen(int place, int column, int number) {
            if (seenCount < 0 || seenCount >= SEEN) {
                return;
            }
            seenPlaces[seenCount] = place;
            seenColumns[seenCount] = column;
            seenNumbers[seenCount] = number;
            seenCount++;
        }

        boolean isSeenIn(Rows tried) {
            for (int i = 0; i < seenCount && i < SEEN; i++) {
                if (tried.get(seenPlaces[i], seenColumns[i]) != seenNumbers[i]) {
                    return false;
                }
            }
            return true;
        }
    }

    /** What a STATEMENT tells; VALUES and TESTS are numbers of those that its script keeps. */
    private static final class Statement {
        private boolean merges;
        private boolean addsRows;
        private int change;
        private int ownColumn;
        private int otherColumn;
        private final int[] sets = new int[WIDTH];
        private final int[] values = new int[WIDTH];
        private int firstTest;
        private int testCount;

        void empty(int tests) {
            merges = false;
            addsRows = false;
            change = SET;
            ownColumn = 0;
            otherColumn = 0;
            for (int column = 0; column < WIDTH; column++) {
                sets[column] = NONE;
                values[column] = NONE;
            }
            firstTest = tests;
            testCount = 0;
        }

        boolean isSet(int column) {
            return column >= 0 && column < WIDTH && sets[column] != NONE;
        }

        int setCount() {
            int found = 0;
            for (int column = 0; column < WIDTH; column++) {
                if (sets[column] != NONE) {
                    found++;
                }
            }
            return found;
        }
    }

    /** What a TEXT tells. */
    private static final class Script {
        // Between two ATOMS, and ahead of the first, a sign or a word stands.
        private static final int ATOMS = TEXT / 2;
        private int columns;
        private final Rows told = new Rows();
        private int indexCount;
        private final int[] firsts = new int[INDEXES];
        private final int[] seconds = new int[INDEXES];
        private int keys;
        private int otherCount;
        private final int[] others = new int[OTHERS * WIDTH];
        private int statementCount;
        private final Statement[] statements = new Statement[STATEMENTS];
        private final Statement nothing = new Statement();
        private int atomCount;
        private final int[] signs = new int[ATOMS];
        private final int[] kinds = new int[ATOMS];
        private final int[] arguments = new int[ATOMS];
        private int valueCount;
        // A VALUE's ATOMS are those from its own entry up to the next one's.
        private final int[] valueStarts = new int[ATOMS + 1];
        private int testCount;
        private final int[] testSigns = new int[ATOMS];
        // The VALUE on the left; that on the right is the next one.
        private final int[] testValues = new int[ATOMS];

        Script() {
            for (int i = 0; i < STATEMENTS; i++) {
                statements[i] = new Statement();
            }
            nothing.empty(0);
            columns = 3;
        }

        /** As behind an empty TEXT. */
        void empty() {
            columns = 3;
            told.empty();
            indexCount = 0;
            keys = 0;
            otherCount = 0;
            statementCount = 0;
            atomCount = 0;
            valueCount = 0;
            testCount = 0;
        }

        int paths() {
            return 1 + 2 * indexCount;
        }

        /** The INDEX that a PATH goes by, NONE by PLACES. */
        static int indexOf(int path) {
            return path > 0 ? (path - 1) / 2 : NONE;
        }

        static boolean goesDown(int path) {
            return path > 0 && path % 2 == 0;
        }

        Statement statement(int number) {
            return number >= 0 && number < STATEMENTS ? statements[number] : nothing;
        }

        Statement addStatement() {
            Statement added = statement(statementCount);
            added.empty(testCount);
            statementCount++;
            return added;
        }

        void addIndex(int first, int second, boolean isKey) {
            if (indexCount < 0 || indexCount >= INDEXES) {
                return;
            }
            firsts[indexCount] = first;
            seconds[indexCount] = second;
            if (isKey) {
                keys |= 1 << indexCount;
            }
            indexCount++;
        }

        int firstColumn(int index) {
            return index >= 0 && index < indexCount && index < INDEXES ? firsts[index] : NONE;
        }

        int secondColumn(int index) {
            return index >= 0 && index < indexCount && index < INDEXES ? seconds[index] : NONE;
        }

        int otherNumber(int other, int column) {
            if (other < 0 || other >= OTHERS || column < 0 || column >= WIDTH) {
                return 0;
            }
            return others[other * WIDTH + column];
        }

        void putOther(int other, int column, int number) {
            if (other >= 0 && other < OTHERS && column >= 0 && column < WIDTH) {
                others[other * WIDTH + column] = number;
            }
        }

        boolean addAtom(int sign, int kind, int argument) {
            if (atomCount < 0 || atomCount >= ATOMS) {
                return false;
            }
            signs[atomCount] = sign;
            kinds[atomCount] = kind;
            arguments[atomCount] = argument;
            atomCount++;
            return true;
        }

        /** The number of the VALUE that has all ATOMS which no VALUE has yet. */
        int closeValue() {
            if (valueCount < 0 || valueCount >= ATOMS) {
                return NONE;
            }
            int value = valueCount;
            valueCount++;
            if (value == 0) {
                valueStarts[0] = 0;
            }
            valueStarts[valueCount] = atomCount;
            return value;
        }

        void addTest(Statement statement, int sign, int leftValue) {
            if (testCount < 0 || testCount >= ATOMS) {
                return;
            }
            testSigns[testCount] = sign;
            testValues[testCount] = leftValue;
            testCount++;
            statement.testCount++;
        }

        int atomsOf(int value) {
            return value >= 0 && value < valueCount && value < ATOMS ? valueStarts[value + 1] - valueStarts[value] : 0;
        }

        /** Where an ATOM of a VALUE lies, NONE without it. */
        int atomAt(int value, int position) {
            if (value < 0 || value >= valueCount || value >= ATOMS || position < 0) {
                return NONE;
            }
            int atom = valueStarts[value] + position;
            return atom >= 0 && atom < valueStarts[value + 1] && atom < ATOMS ? atom : NONE;
        }

        /** What a VALUE comes to for a row of the table and one of OTHERS. */
        int worth(int value, Rows rows, int place, int other) {
            if (value < 0 || value >= valueCount || value >= ATOMS) {
                return 0;
            }
            int result = 0;
            for (int i = valueStarts[value]; i < valueStarts[value + 1] && i < ATOMS; i++) {
                int number;
                switch (kinds[i]) {
                    case NUMBER: number = arguments[i]; break;
                    case COLUMN: number = rows.get(place, arguments[i]); break;
                    case OTHER_WORD: number = otherNumber(other, arguments[i]); break;
                    default: number = rows.whole(kinds[i], arguments[i]); break;
                }
                if (signs[i] == '*') {
                    result *= number;
                } else {
                    result += signs[i] == '-' ? -number : number;
                }
            }
            return result;
        }

        boolean holds(Statement statement, Rows rows, int place) {
            int until = Math.min(statement.firstTest + statement.testCount, ATOMS);
            for (int i = Math.max(statement.firstTest, 0); i < until; i++) {
                int left = worth(testValues[i], rows, place, NONE);
                int right = worth(testValues[i] + 1, rows, place, NONE);
                boolean isSo = testSigns[i] == '<' ? left < right : testSigns[i] == '>' ? left > right : left == right;
                if (!isSo) {
                    return false;
                }
            }
            return true;
        }

        private boolean areAlike(Rows rows, int place, int otherPlace, int index) {
            int first = firstColumn(index);
            int second = secondColumn(index);
            return rows.get(place, first) == rows.get(otherPlace, first)
                    && (second == NONE || rows.get(place, second) == rows.get(otherPlace, second));
        }

        /** The least two PLACES that are alike in an INDEX: 100 by the less and the other; NONE. */
        int twins(Rows rows, int index) {
            for (int place = 0; place < PLACES; place++) {
                if (!rows.has(place)) {
                    continue;
                }
                for (int k = place + 1; k < PLACES; k++) {
                    if (rows.has(k) && areAlike(rows, place, k, index)) {
                        return 100 * place + k;
                    }
                }
            }
            return NONE;
        }

        /** Whether by any KEY another row is like the one at a PLACE. */
        boolean hasTwin(Rows rows, int place) {
            for (int k = 0; k < PLACES && rows.has(place); k++) {
                for (int index = 0; index < indexCount && rows.has(k) && k != place; index++) {
                    if ((keys >>> index & 1) == 1 && areAlike(rows, place, k, index)) {
                        return true;
                    }
                }
            }
            return false;
        }

        /** The first KEY that has two ROWS alike, NONE without. */
        int firstClash(Rows rows) {
            for (int index = 0; index < indexCount; index++) {
                if ((keys >>> index & 1) == 1 && twins(rows, index) != NONE) {
                    return index;
                }
            }
            return NONE;
        }
    }

    /** Cuts a TEXT into TOKENS and reads CLAUSES from them; what reads answers false behind a FAULT. */
    private static final class Parser {
        private static final int WRONG = 1;
        private static final int TOO_MUCH = 2;
        private static final int NO_SUCH = 3;
        private static final int NOT_NOW = 4;
        private final int[] kinds = new int[TEXT + 1];
        private final int[] starts = new int[TEXT + 1];
        private final int[] numbers = new int[TEXT + 1];
        private int tokens;
        private int at;
        private Script script;
        private int fault;
        private int faultPlace = NONE;
        // What was read last.
        private int column;
        private int signed;
        private int value;
        // Which ATOMS may stand where it reads.
        private boolean takesOther;
        private boolean takesColumn;

        Parser(Script first) {
            script = first;
        }

        /** The FAULT's kind, 0 without. */
        int parse(byte[] text, int length, Script into) {
            cut(text, Math.min(length, text.length));
            script = into;
            script.empty();
            at = 0;
            fault = 0;
            faultPlace = NONE;
            boolean goesOn = true;
            for (int clause = 0; clause <= TEXT && goesOn && kind() != TEXT_END; clause++) {
                if (script.statementCount >= STATEMENTS && kind() >= UPDATE_WORD && kind() <= MERGE_WORD) {
                    goesOn = refuse(TOO_MUCH);
                    continue;
                }
                switch (kind()) {
                    case COLUMNS_WORD: goesOn = readColumns(clause == 0); break;
                    case ROW_WORD: goesOn = readRow(); break;
                    case OTHER_WORD: goesOn = readOther(); break;
                    case KEY_WORD: goesOn = readIndex(true); break;
                    case INDEX_WORD: goesOn = readIndex(false); break;
                    case UPDATE_WORD: goesOn = readUpdate(); break;
                    case DELETE_WORD: goesOn = readDelete(); break;
                    case INSERT_WORD: goesOn = readInsert(); break;
                    case MERGE_WORD: goesOn = readMerge(); break;
                    default: goesOn = refuse(WRONG); break;
                }
            }
            return fault;
        }

        private void cut(byte[] text, int length) {
            tokens = 0;
            int from = 0;
            for (int step = 0; step < TEXT && from < length; step++) {
                int sign = text[from];
                int until = from + 1;
                if (isLetter(sign)) {
                    while (until < length && isLetter(text[until])) {
                        until++;
                    }
                    addWord(text, from, until);
                } else if (isDigit(sign)) {
                    while (until < length && isDigit(text[until])) {
                        until++;
                    }
                    addNumber(text, from, until);
                } else if (sign != ' ' && sign != '\n') {
                    addToken(isSign(sign) ? sign : BAD, from, 0);
                }
                from = until;
            }
            addToken(TEXT_END, length, 0);
        }

        private static boolean isLetter(int sign) {
            return sign >= 'a' && sign <= 'z';
        }

        private static boolean isDigit(int sign) {
            return sign >= '0' && sign <= '9';
        }

        private static boolean isSign(int sign) {
            return sign == ';' || sign == ',' || sign == '+' || sign == '-' || sign == '*'
                    || sign == '<' || sign == '=' || sign == '>';
        }

        private void addToken(int kind, int start, int number) {
            if (tokens < 0 || tokens > TEXT) {
                return;
            }
            kinds[tokens] = kind;
            starts[tokens] = start;
            numbers[tokens] = number;
            tokens++;
        }

        private void addNumber(byte[] text, int from, int until) {
            int number = 0;
            for (int i = Math.max(from, 0); i < until && i < from + 4 && i < text.length; i++) {
                number = number * 10 + text[i] - '0';
            }
            addToken(until - from > 4 ? LONG_NUMBER : NUMBER, from, number);
        }

        private void addWord(byte[] text, int from, int until) {
            boolean isColumn = until == from + 1 && from >= 0 && from < text.length && text[from] <= 'd';
            if (isColumn) {
                addToken(COLUMN, from, text[from] - 'a');
            } else {
                addToken(wordKind(text, from, until), from, 0);
            }
        }

        private static int wordKind(byte[] text, int from, int until) {
            int kind = WORD;
            int place = from;
            boolean isLike = true;
            for (int i = 0; i < WORDS.length(); i++) {
                char letter = WORDS.charAt(i);
                if (letter != ' ') {
                    isLike = isLike && place >= 0 && place < until && place < text.length && text[place] == letter;
                    place++;
                } else if (isLike && place == until) {
                    return kind;
                } else {
                    kind++;
                    place = from;
                    isLike = true;
                }
            }
            return BAD;
        }

        private int kind() {
            return at >= 0 && at < tokens && at <= TEXT ? kinds[at] : TEXT_END;
        }

        private int number() {
            return at >= 0 && at < tokens && at <= TEXT ? numbers[at] : 0;
        }

        private boolean refuse(int kind) {
            fault = kind;
            faultPlace = at >= 0 && at < tokens && at <= TEXT ? starts[at] : 0;
            return false;
        }

        private boolean pass(int kind) {
            if (kind() != kind) {
                return refuse(WRONG);
            }
            at++;
            return true;
        }

        private boolean readColumns(boolean isFirst) {
            if (!isFirst) {
                return refuse(NOT_NOW);
            }
            at++;
            if (kind() != NUMBER && kind() != LONG_NUMBER) {
                return refuse(WRONG);
            }
            if (kind() == LONG_NUMBER || number() < 1 || number() > WIDTH) {
                return refuse(TOO_MUCH);
            }
            script.columns = number();
            at++;
            return pass(';');
        }

        private boolean readRow() {
            int place = script.told.firstFree();
            if (place == NONE) {
                return refuse(TOO_MUCH);
            }
            at++;
            for (int i = 0; i < script.columns; i++) {
                if (!readSigned()) {
                    return false;
                }
                script.told.put(place, i, signed);
            }
            if (kind() != ';') {
                return refuse(WRONG);
            }
            script.told.add(place);
            if (script.firstClash(script.told) != NONE) {
                return refuse(NOT_NOW);
            }
            at++;
            return true;
        }

        private boolean readOther() {
            if (script.otherCount >= OTHERS) {
                return refuse(TOO_MUCH);
            }
            at++;
            for (int i = 0; i < script.columns; i++) {
                if (!readSigned()) {
                    return false;
                }
                script.putOther(script.otherCount, i, signed);
            }
            script.otherCount++;
            return pass(';');
        }

        private boolean readSigned() {
            boolean isNegative = kind() == '-';
            if (isNegative) {
                at++;
            }
            if (kind() == LONG_NUMBER) {
                return refuse(TOO_MUCH);
            }
            if (kind() != NUMBER) {
                return refuse(WRONG);
            }
            signed = isNegative ? -number() : number();
            at++;
            return true;
        }

        private boolean readColumn() {
            if (kind() != COLUMN) {
                return refuse(WRONG);
            }
            if (number() >= script.columns) {
                return refuse(NO_SUCH);
            }
            column = number();
            at++;
            return true;
        }

        private boolean readIndex(boolean isKey) {
            if (script.indexCount >= INDEXES) {
                return refuse(TOO_MUCH);
            }
            at++;
            if (!readColumn()) {
                return false;
            }
            int first = column;
            int second = NONE;
            if (kind() == COLUMN) {
                if (number() == first) {
                    return refuse(NO_SUCH);
                }
                if (!readColumn()) {
                    return false;
                }
                second = column;
            }
            if (kind() != ';') {
                return refuse(WRONG);
            }
            script.addIndex(first, second, isKey);
            if (script.firstClash(script.told) != NONE) {
                return refuse(NOT_NOW);
            }
            at++;
            return true;
        }

        private Statement begin(int change) {
            at++;
            Statement statement = script.addStatement();
            statement.change = change;
            allow(false, true);
            return statement;
        }

        private boolean readUpdate() {
            Statement statement = begin(SET);
            return readSets(statement) && readWhere(statement) && pass(';');
        }

        private boolean readDelete() {
            return readWhere(begin(GONE)) && pass(';');
        }

        private boolean readInsert() {
            Statement statement = begin(COPIED);
            statement.addsRows = true;
            return readValues(statement) && readWhere(statement) && pass(';');
        }

        private boolean readMerge() {
            Statement statement = begin(SET);
            statement.merges = true;
            if (!readColumn()) {
                return false;
            }
            statement.ownColumn = column;
            if (!readColumn()) {
                return false;
            }
            statement.otherColumn = column;
            int word = kind();
            if (word != SET_WORD && word != DELETE_WORD && word != KEEP_WORD) {
                return refuse(WRONG);
            }
            at++;
            statement.change = word == SET_WORD ? SET : word == DELETE_WORD ? GONE : KEPT;
            allow(true, true);
            if (word == SET_WORD && !readSets(statement)) {
                return false;
            }
            if (kind() == INSERT_WORD) {
                at++;
                statement.addsRows = true;
                allow(true, false);
                if (!readValues(statement)) {
                    return false;
                }
            }
            return pass(';');
        }

        private void allow(boolean other, boolean bareColumn) {
            takesOther = other;
            takesColumn = bareColumn;
        }

        private boolean readSets(Statement statement) {
            for (int i = 0; i <= WIDTH; i++) {
                if (kind() == COLUMN && statement.isSet(number())) {
                    return refuse(NO_SUCH);
                }
                if (!readColumn()) {
                    return false;
                }
                int target = column;
                if (!pass('=') || !readValue()) {
                    return false;
                }
                if (target >= 0 && target < WIDTH) {
                    statement.sets[target] = value;
                }
                if (kind() != ',') {
                    return true;
                }
                at++;
            }
            return refuse(WRONG);
        }

        private boolean readValues(Statement statement) {
            for (int i = 0; i < script.columns && i < WIDTH; i++) {
                if (i > 0 && !pass(',')) {
                    return false;
                }
                if (!readValue()) {
                    return false;
                }
                statement.values[i] = value;
            }
            return true;
        }

        private boolean readWhere(Statement statement) {
            if (kind() != WHERE_WORD) {
                return true;
            }
            for (int i = 0; i < TEXT && (kind() == WHERE_WORD && i == 0 || kind() == AND_WORD); i++) {
                at++;
                if (!readValue()) {
                    return false;
                }
                int left = value;
                int sign = kind();
                if (sign != '<' && sign != '=' && sign != '>') {
                    return refuse(WRONG);
                }
                at++;
                if (!readValue()) {
                    return false;
                }
                script.addTest(statement, sign, left);
            }
            return true;
        }

        private boolean readValue() {
            int sign = '+';
            for (int i = 0; i < TEXT; i++) {
                if (!readAtom(sign)) {
                    return false;
                }
                sign = kind();
                if (sign != '+' && sign != '-' && sign != '*') {
                    break;
                }
                at++;
            }
            value = script.closeValue();
            return true;
        }

        private boolean readAtom(int sign) {
            int kind = kind();
            switch (kind) {
                case COLUMN:
                    if (!takesColumn) {
                        return refuse(NO_SUCH);
                    }
                    return readColumn() && script.addAtom(sign, COLUMN, column);
                case OTHER_WORD:
                    if (!takesOther) {
                        return refuse(NO_SUCH);
                    }
                    at++;
                    return readColumn() && script.addAtom(sign, OTHER_WORD, column);
                case SUM_WORD:
                case LEAST_WORD:
                case MOST_WORD:
                    at++;
                    return readColumn() && script.addAtom(sign, kind, column);
                case COUNT_WORD:
                    at++;
                    return script.addAtom(sign, COUNT_WORD, 0);
                default:
                    return readSigned() && script.addAtom(sign, NUMBER, signed);
            }
        }
    }

    /** Reads rows along a PATH, each time from behind where the last one stood. */
    private static final class Cursor {
        // Farther than any row's rank.
        private static final long FAR = 1L << 60;
        private int first;
        private int second;
        private boolean goesDown;
        private int low;
        private int high;
        private long last;

        void start(Script script, int path) {
            int index = Script.indexOf(path);
            first = script.firstColumn(index);
            second = script.secondColumn(index);
            goesDown = Script.goesDown(path);
            low = -LIMIT;
            high = LIMIT;
            last = -FAR;
        }

        /** Only a path by an INDEX has a RANGE. */
        void startWithin(Script script, Statement statement, int path) {
            start(script, path);
            if (first == NONE) {
                return;
            }
            int until = Math.min(statement.firstTest + statement.testCount, Script.ATOMS);
            for (int i = Math.max(statement.firstTest, 0); i < until; i++) {
                narrow(script, script.testValues[i], script.testSigns[i]);
            }
        }

        private void narrow(Script script, int left, int sign) {
            int column = script.atomAt(left, 0);
            int signed = script.atomAt(left + 1, 0);
            if (column == NONE || signed == NONE || script.atomsOf(left) != 1 || script.atomsOf(left + 1) != 1) {
                return;
            }
            if (script.kinds[column] != COLUMN || script.arguments[column] != first || script.kinds[signed] != NUMBER) {
                return;
            }
            int bound = script.arguments[signed];
            if (sign != '<') {
                low = Math.max(low, sign == '>' ? bound + 1 : bound);
            }
            if (sign != '>') {
                high = Math.min(high, sign == '<' ? bound - 1 : bound);
            }
        }

        /** For one of OTHERS: an INDEX by the merge's own COLUMN reads those alone that match. */
        void startForOther(Script script, Statement statement, int path, int number) {
            start(script, path);
            if (first != NONE && first == statement.ownColumn) {
                low = number;
                high = number;
            }
        }

        /** The next row's PLACE, NONE at the end. */
        int next(Rows rows) {
            int found = NONE;
            long nearest = FAR;
            for (int place = 0; place < PLACES; place++) {
                if (!rows.has(place)) {
                    continue;
                }
                long rank = rank(rows, place);
                if (rank > last && rank < nearest && isInRange(rows, place)) {
                    nearest = rank;
                    found = place;
                }
            }
            if (found != NONE) {
                last = nearest;
            }
            return found;
        }

        private boolean isInRange(Rows rows, int place) {
            return first == NONE || rows.get(place, first) >= low && rows.get(place, first) <= high;
        }

        private long rank(Rows rows, int place) {
            if (first == NONE) {
                return place;
            }
            long number = rows.get(place, first) + LIMIT;
            long lesser = second == NONE ? 0 : rows.get(place, second) + LIMIT;
            long rank = (number * (2 * LIMIT + 1) + lesser) * PLACES + place;
            return goesDown ? -rank : rank;
        }
    }

    /** One run of a STATEMENT along a PATH with a SPOOL at a stage, on rows of its own. */
    private static final class Pass {
        // A row is a MATCH of one of OTHERS at most where it is spooled: all rows, and a new one for each of OTHERS.
        private static final int SLOTS = PLACES + OTHERS;
        // Far above what can be read between two writes.
        private static final int MOST_READS = 100000;
        private final Rows rows = new Rows();
        private final Cursor cursor = new Cursor();
        private final int[] places = new int[SLOTS];
        private final int[] others = new int[SLOTS];
        private final int[] made = new int[SLOTS * WIDTH];
        private final int[] writes = new int[PLACES];
        private Script script;
        private Statement statement;
        private int stage;
        private int spooled;
        private int written;
        private int end;
        private int told;
        private int toldMore;

        Pass(Script first) {
            script = first;
            statement = first.nothing;
        }

        void perform(Script by, int number, int path, int spoolStage, Rows base) {
            script = by;
            statement = by.statement(number);
            stage = spoolStage;
            rows.copyFrom(base);
            spooled = 0;
            written = 0;
            for (int i = 0; i < PLACES; i++) {
                writes[i] = 0;
            }
            finish(WELL, NONE, NONE);
            if (statement.merges) {
                findDouble();
                readForOthers(path);
            } else {
                readTable(path);
            }
            emptySpool();
            findClash();
        }

        /** Its END, but for a CLASH, which is found at the end alone. */
        int earlyEnd() {
            return end == CLASH ? WELL : end;
        }

        int twice() {
            int found = 0;
            for (int i = 0; i < PLACES; i++) {
                if (writes[i] >= 2) {
                    found++;
                }
            }
            return found;
        }

        private void finish(int how, int first, int second) {
            end = how;
            told = first;
            toldMore = second;
        }

        private void findDouble() {
            if (statement.change == KEPT) {
                return;
            }
            for (int place = 0; place < PLACES && end == WELL; place++) {
                if (rows.has(place)) {
                    findDoubleAt(place);
                }
            }
        }

        private void findDoubleAt(int place) {
            int number = rows.get(place, statement.ownColumn);
            int first = NONE;
            for (int other = 0; other < script.otherCount && end == WELL; other++) {
                if (script.otherNumber(other, statement.otherColumn) != number) {
                    continue;
                }
                if (first == NONE) {
                    first = other;
                } else {
                    finish(DOUBLE, place, 100 * first + other);
                }
            }
        }

        private void readTable(int path) {
            cursor.startWithin(script, statement, path);
            for (int reads = 0; reads < MOST_READS && end == WELL; reads++) {
                int place = cursor.next(rows);
                if (place == NONE) {
                    return;
                }
                meet(place, NONE);
            }
        }

        private void readForOthers(int path) {
            for (int other = 0; other < script.otherCount && end == WELL; other++) {
                int number = script.otherNumber(other, statement.otherColumn);
                boolean isMatched = false;
                cursor.startForOther(script, statement, path, number);
                int place = cursor.next(rows);
                for (int reads = 0; reads < MOST_READS && end == WELL && place != NONE; reads++) {
                    if (rows.get(place, statement.ownColumn) == number) {
                        isMatched = true;
                        meet(place, other);
                    }
                    place = cursor.next(rows);
                }
                if (!isMatched && statement.addsRows && end == WELL) {
                    meet(NONE, other);
                }
            }
        }

        /** Takes a row that was read (NONE: a new one) as far as the stage lets it go. */
        private void meet(int place, int other) {
            int slot = stage == 0 ? 0 : spooled;
            if (slot < 0 || slot >= SLOTS || place != NONE && statement.change == KEPT) {
                return;
            }
            places[slot] = place;
            others[slot] = other;
            if (stage != 1 && !script.holds(statement, rows, place)) {
                return;
            }
            if (stage == 0 || stage == MAKING) {
                make(slot);
            }
            if (stage != 0) {
                spooled++;
            } else if (end == WELL) {
                write(slot);
            }
        }

        private void emptySpool() {
            for (int slot = 0; slot < spooled && slot < SLOTS && end == WELL; slot++) {
                int place = places[slot];
                boolean isGone = place != NONE && !rows.has(place);
                if (isGone || stage == 1 && !script.holds(statement, rows, place)) {
                    continue;
                }
                if (stage != MAKING) {
                    make(slot);
                }
                if (end == WELL) {
                    write(slot);
                }
            }
        }

        private boolean laysNewRow(int slot) {
            return statement.change == COPIED || slot >= 0 && slot < SLOTS && places[slot] == NONE;
        }

        private void make(int slot) {
            if (slot < 0 || slot >= SLOTS) {
                return;
            }
            boolean isNew = laysNewRow(slot);
            for (int column = 0; column < script.columns && column < WIDTH && end == WELL; column++) {
                int value = isNew ? statement.values[column] : statement.sets[column];
                if (value == NONE) {
                    continue;
                }
                int number = script.worth(value, rows, places[slot], others[slot]);
                made[slot * WIDTH + column] = number;
                if (number < -LIMIT || number > LIMIT) {
                    finish(OVER, places[slot], column);
                }
            }
        }

        private void write(int slot) {
            if (laysNewRow(slot) && rows.firstFree() == NONE) {
                finish(FULL, NONE, NONE);
                return;
            }
            if (written >= MOST_WRITES) {
                finish(ENDLESS, NONE, NONE);
                return;
            }
            int place = applyTo(rows, slot);
            written++;
            if (place >= 0 && place < PLACES) {
                writes[place]++;
            }
        }

        /** Writes what was made: the PLACE that was written to, NONE if none is free. */
        int applyTo(Rows target, int slot) {
            if (slot < 0 || slot >= SLOTS) {
                return NONE;
            }
            boolean isNew = laysNewRow(slot);
            int place = isNew ? target.firstFree() : places[slot];
            if (place == NONE) {
                return NONE;
            }
            if (!isNew && statement.change == GONE) {
                target.drop(place);
                return place;
            }
            for (int column = 0; column < script.columns && column < WIDTH; column++) {
                if (isNew || statement.sets[column] != NONE) {
                    target.put(place, column, made[slot * WIDTH + column]);
                }
            }
            target.add(place);
            return place;
        }

        private void findClash() {
            if (end != WELL) {
                return;
            }
            int index = script.firstClash(rows);
            if (index != NONE) {
                finish(CLASH, index, script.twins(rows, index));
            }
        }
    }

    /** Tells the REASONS for a SPOOL, where it is PLANNED and what that costs. */
    private static final class Planner {
        private static final int STILL = 0;
        private static final int LESS = 1;
        private static final int MORE = 2;
        private static final int ASTRAY = 3;
        private final Cursor cursor = new Cursor();
        private int reads;
        // Rows that hold, of a 'merge' MATCHES; new rows of a 'merge'.
        private int holding;
        private int added;
        private int reasons;
        private int stage;
        private int held;

        void decide(Script script, Statement statement, int path, Rows rows) {
            reads = 0;
            holding = 0;
            added = 0;
            if (statement.merges) {
                measureMerge(script, statement, path, rows);
            } else {
                measure(script, statement, path, rows);
            }
            reasons = meetsItself(script, statement, path) ? 1 : 0;
            reasons += testsAsk(script, statement) ? 2 : 0;
            reasons += makingAsks(script, statement) ? 4 : 0;
            stage = 0;
            held = 0;
            if (reasons == 0) {
                return;
            }
            int least = reasons >= 4 ? 3 : reasons >= 2 ? 2 : 1;
            for (int tried = least; tried < STAGES; tried++) {
                int needed = heldAt(script, statement, tried);
                if (stage == 0 || needed < held) {
                    stage = tried;
                    held = needed;
                }
            }
        }

        private void measure(Script script, Statement statement, int path, Rows rows) {
            cursor.startWithin(script, statement, path);
            for (int i = 0; i < PLACES; i++) {
                int place = cursor.next(rows);
                if (place == NONE) {
                    return;
                }
                reads++;
                if (script.holds(statement, rows, place)) {
                    holding++;
                }
            }
        }

        private void measureMerge(Script script, Statement statement, int path, Rows rows) {
            for (int other = 0; other < script.otherCount; other++) {
                int number = script.otherNumber(other, statement.otherColumn);
                int before = holding;
                cursor.startForOther(script, statement, path, number);
                int place = cursor.next(rows);
                for (int i = 0; i < PLACES && place != NONE; i++) {
                    reads++;
                    if (rows.get(place, statement.ownColumn) == number) {
                        holding++;
                    }
                    place = cursor.next(rows);
                }
                if (holding == before && statement.addsRows) {
                    added++;
                }
            }
        }

        private int heldAt(Script script, Statement statement, int tried) {
            if (tried == 1) {
                return statement.merges ? holding + added : reads;
            }
            if (tried == 2) {
                return holding + added;
            }
            int each;
            switch (statement.change) {
                case SET: each = 1 + statement.setCount(); break;
                case COPIED: each = 1 + script.columns; break;
                case GONE: each = 1; break;
                default: each = 0; break;
            }
            return holding * each + added * (1 + script.columns);
        }

        /** REASON 1. */
        private static boolean meetsItself(Script script, Statement statement, int path) {
            int index = Script.indexOf(path);
            int first = script.firstColumn(index);
            int second = script.secondColumn(index);
            if (statement.merges) {
                return statement.addsRows || statement.isSet(statement.ownColumn)
                        || statement.isSet(first) || statement.isSet(second);
            }
            if (statement.change == GONE) {
                return false;
            }
            boolean copies = statement.change == COPIED;
            if (first == NONE) {
                return copies;
            }
            int motion = motion(script, statement, first);
            if (motion == STILL && second != NONE) {
                motion = motion(script, statement, second);
            }
            if (motion == STILL) {
                return copies;
            }
            return motion != (Script.goesDown(path) ? MORE : LESS);
        }

        /** How a COLUMN is MOVED by what it is SET to, or told anew. */
        private static int motion(Script script, Statement statement, int column) {
            if (column < 0 || column >= WIDTH) {
                return STILL;
            }
            int value = statement.change == COPIED ? statement.values[column] : statement.sets[column];
            if (value == NONE) {
                return STILL;
            }
            int base = script.atomAt(value, 0);
            if (base == NONE || script.kinds[base] != COLUMN || script.arguments[base] != column) {
                return ASTRAY;
            }
            int atoms = script.atomsOf(value);
            int step = script.atomAt(value, 1);
            if (atoms == 1 || step == NONE) {
                return STILL;
            }
            if (atoms > 2 || script.kinds[step] != NUMBER || script.signs[step] == '*') {
                return ASTRAY;
            }
            int change = script.signs[step] == '-' ? -script.arguments[step] : script.arguments[step];
            return change == 0 ? STILL : change < 0 ? LESS : MORE;
        }

        /** REASON 2. */
        private static boolean testsAsk(Script script, Statement statement) {
            int until = Math.min(statement.firstTest + statement.testCount, Script.ATOMS);
            for (int i = Math.max(statement.firstTest, 0); i < until; i++) {
                int left = script.testValues[i];
                if (asks(script, statement, left) || asks(script, statement, left + 1)) {
                    return true;
                }
            }
            return false;
        }

        /** REASON 4. */
        private static boolean makingAsks(Script script, Statement statement) {
            for (int column = 0; column < WIDTH; column++) {
                if (asks(script, statement, statement.sets[column]) || asks(script, statement, statement.values[column])) {
                    return true;
                }
            }
            return false;
        }

        /** Whether a VALUE asks of the whole TABLE what the statement changes. */
        private static boolean asks(Script script, Statement statement, int value) {
            boolean countChanges = statement.addsRows || statement.change == GONE;
            int until = script.atomsOf(value);
            for (int i = 0; i < until; i++) {
                int atom = script.atomAt(value, i);
                if (atom == NONE) {
                    return false;
                }
                int kind = script.kinds[atom];
                boolean asksColumn = kind == SUM_WORD || kind == LEAST_WORD || kind == MOST_WORD;
                if (countChanges && (asksColumn || kind == COUNT_WORD)
                        || asksColumn && statement.isSet(script.arguments[atom])) {
                    return true;
                }
            }
            return false;
        }
    }
}
