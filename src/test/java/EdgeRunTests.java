/** Boundaries of the second part of the terms: values, paths, statements, spools, ends. */
public final class EdgeRunTests {
    private static final int HIDDEN = Edges.HIDDEN;

    public static void main(String[] args) throws ReflectiveOperationException, java.io.IOException {
        Edges.runAll(EdgeRunTests.class);
        Writing.end("EdgeRunTests");
    }

    private static void holds(String sentence) {
        Edges.holds("Terms 2", sentence);
    }

    private static BulkWriter good(String text) {
        return Edges.good(text);
    }

    private static void due(String what, long got, long want) {
        Edges.due(what, got, want);
    }

    private static void right(BulkWriter w, int statement, int... want) {
        Edges.right(w, statement, want);
    }

    private static void goes(BulkWriter w, int statement, int path, int stage, int... want) {
        Edges.goes(w, statement, path, stage, want);
    }

    private static void row(BulkWriter w, int place, int... want) {
        Edges.row(w, place, want);
    }

    /** What the only row's first number becomes. */
    private static void becomes(String value, int want) {
        BulkWriter w = good("columns 2;row 6 7;update a = " + value + ";");
        due(value, w.run(0), 1);
        due(value, w.cell(0, 0), want);
    }

    // ---- values

    private static void valuesGoFromTheLeft() {
        holds("A VALUE: from the left, one ATOM after the other");
        becomes("1 + 2 * 3", 9);
        becomes("2 - 3 - 4", -5);
        becomes("2 * 3 + 4 * 5", 50);
        becomes("9 - 2 * a", 42);
        becomes("2 - -3", 5);
        becomes("2 + -3", -1);
        becomes("2 * -3", -6);
        becomes("-2 * -3", 6);
        becomes("-0", 0);
    }

    private static void valuesWrap() {
        holds("ints that wrap");
        // 2 to the 32nd is 0, to the 31st the least int
        becomes("8192 * 8192 * 64 + 5", 5);
        becomes("8192 * 8192 * 32 * 2 - 9999", -9999);
        BulkWriter w = good("columns 1;row 1;delete where 8192 * 8192 * 32 < 0;delete where 8192 * 8192 * 32 - 1 > 0;"
                + "delete where 8192 * 8192 * 32 - 1 < 0;update a = 8192 * 8192 * 32;update a = 8192 * 8192 * 32 - 1;"
                + "delete where 8192 * 8192 * 32 - 1 = 8192 * 8192 * -32 + -1;");
        right(w, 0, 1);
        right(w, 1, 1);
        right(w, 2, 0);
        right(w, 3, 0, 2);
        right(w, 4, 0, 2);
        right(w, 5, 1);
    }

    private static void wholeTableWithoutRows() {
        holds("over all ROWS that there are as it is asked (0 without any)");
        BulkWriter none = good("columns 4;other 1 1 1 1;merge a a keep insert sum a, least b, most c, count;");
        due("a new row", none.run(0), 1);
        row(none, 0, 0, 0, 0, 0);
        BulkWriter taken = good("columns 3;row 5 5 5;other 1 1 1;merge a a keep insert sum a, least b, most c + count;");
        taken.take(0);
        due("a new row", taken.run(0), 1);
        row(taken, 0, 0, 0, 0);
        // a first 0 would be less than all of these, or more
        BulkWriter far = good("columns 2;row 7 -7;row 5 -5;row 9 -9;update a = least a, b = most b;update a = sum a, b = count;"
                + "update a = most a, b = least b;");
        far.run(0);
        row(far, 1, 5, -5);
        far.undo();
        far.run(1);
        row(far, 1, 21, 3);
        far.undo();
        far.run(2);
        row(far, 1, 9, -9);
        far.undo();
        far.take(2);
        far.run(1);
        row(far, 0, 12, 2);
    }

    private static void wholeTableAsItIsAsked() {
        holds("as it is asked");
        BulkWriter w = good("columns 1;row 5;row 6;row 7;delete where count > 1;update a = sum a;delete where a = least a;");
        // 3, 2, then 1 are there
        goes(w, 0, 0, 0, 0, 0, 2, 0);
        goes(w, 0, 0, 2, 0, 0, 3, 0);
        // 18, 31, 56; ahead of writing 18 all three
        goes(w, 1, 0, 0, 2, 0, 3, 0);
        goes(w, 1, 0, 3, 0, 0, 3, 0);
        // each is the least of those that are left
        goes(w, 2, 0, 0, 2, 0, 3, 0);
    }

    private static void atomsAskTheRowOthersOrTheTable() {
        holds("COLUMN: what the ROW has; 'other' COLUMN: what the row of OTHERS has; 'sum', 'least', 'most' of a COLUMN, 'count'");
        String table = "columns 2;row 1 5;row 3 -4;other 7 8;other 3 9;merge a a ";
        String[] values = {"a", "b", "other a", "other b", "sum b", "least b", "most b", "count", "sum a", "least a", "most a",
            "a + other b"};
        int[] want = {3, -4, 3, 9, 1, -4, 5, 2, 4, 1, 3, 12};
        for (int i = 0; i < values.length; i++) {
            BulkWriter w = good(table + "set b = " + values[i] + ";");
            due(values[i], w.run(0), 1);
            row(w, 0, 1, 5);
            row(w, 1, 3, want[i]);
        }
        BulkWriter w = good(table + "keep insert other b, other a;");
        due("a new row", w.run(0), 1);
        row(w, 2, 8, 7);
    }

    // ---- paths

    private static void pathsAreSevenAtMost() {
        holds("PATHS: 0 by PLACES, rising; 1 and 2 INDEX 0 up and down, 3 and 4 INDEX 1, 5 and 6 INDEX 2");
        BulkWriter w = good("row 2 1 3;row 1 3 2;row 3 2 1;index a;index b;index c;");
        Edges.along(w, 0, 0, 1, 2);
        Edges.along(w, 1, 1, 0, 2);
        Edges.along(w, 2, 2, 0, 1);
        Edges.along(w, 3, 0, 2, 1);
        Edges.along(w, 4, 1, 2, 0);
        Edges.along(w, 5, 2, 1, 0);
        Edges.along(w, 6, 0, 1, 2);
        Edges.missing("no path 7", () -> w.along(7, 0));
        Edges.missing("no path -1", () -> w.along(-1, 0));
        BulkWriter one = good("row 1 1 1;index a;");
        due("two by one index", one.along(2, 0), 0);
        Edges.missing("none by the second", () -> one.along(3, 0));
        BulkWriter none = good("row 1 1 1;");
        Edges.missing("none by the first", () -> none.along(1, 0));
    }

    private static void pathGoesOnBehindWhereTheLastStood() {
        holds("behind where the last one stood when it was READ (be it there no more)");
        BulkWriter gone = good("columns 1;row 2;row 1;row 1;row 0;index a;delete;delete where a > 0;");
        for (int path = 0; path < 3; path++) {
            goes(gone, 0, path, 0, 0, 0, 4, 0);
            goes(gone, 1, path, 0, 0, 0, 3, 0);
        }
        // up: (1, place 0) becomes (2, place 0), which is behind where it stood; then (2, place 1)
        BulkWriter ties = good("columns 1;row 1;row 2;index a;update a = 2;update a = 1;");
        goes(ties, 0, 1, 0, 0, 0, 3, 1);
        goes(ties, 0, 2, 0, 0, 0, 2, 0);
        // down: (2, place 1) becomes (1, place 1), behind it, and comes ahead of (1, place 0)
        goes(ties, 1, 2, 0, 0, 0, 3, 1);
        goes(ties, 1, 1, 0, 0, 0, 2, 0);
        // moved to where another one stood: it is met again only behind the place that was read
        BulkWriter swap = good("columns 1;row 5;row 3;index a;update a = 8 - a;");
        // up: place 1 is 3, becomes 5; (5, 0) becomes 3; (5, 1) becomes 3
        goes(swap, 0, 1, 0, 1, 0, 3, 1);
        // down: place 0 is 5, becomes 3; (3, 1) becomes 5; (3, 0) becomes 5
        goes(swap, 0, 2, 0, 1, 0, 3, 1);
        goes(swap, 0, 0, 0, 0, 0, 2, 0);
    }

    private static void pathIsInTheOrderAsItIsThen() {
        holds("Along a PATH the next ROW is the first, in that order as it is then");
        BulkWriter w = good("columns 1;row 1;row 5;index a;update a = a + 5 where a < 8;insert a + 1 where a < 4;delete;");
        // up: 1 becomes 6, 5 becomes 10, the 6 becomes 11; right 6 and 10
        goes(w, 0, 1, 0, 1, 0, 3, 1);
        // down: 5 becomes 10, 1 becomes 6
        goes(w, 0, 2, 0, 0, 0, 2, 0);
        // up: 2, 3, 4 come one behind the other
        goes(w, 1, 1, 0, 0, 0, 3, 0);
        goes(w, 1, 2, 0, 0, 0, 1, 0);
        // by places too: 2 at place 2, 3 at place 3, 4 at place 4
        goes(w, 1, 0, 0, 0, 0, 3, 0);
        BulkWriter empty = good("columns 1;index a;update a = 1;delete;insert 1;");
        for (int path = 0; path < 3; path++) {
            for (int s = 0; s < 3; s++) {
                goes(empty, s, path, 0, 0, 0, 0, 0);
            }
        }
    }

    private static void rangeOf(String tests, int... want) {
        BulkWriter w = good("columns 2;row -9999 0;row 3 1;row 4 0;row 5 1;row 9999 0;index a;index b a;delete where "
                + tests + ";");
        for (int path = 0; path < 5; path++) {
            due(tests + " reads along " + path, w.plan(0, path, 3), path == 0 ? 5 : want[path < 3 ? 0 : 1]);
        }
    }

    private static void rangeIsBelowJustSoAbove() {
        holds("compared to a SIGNED alone (on the right): below, just so, above it");
        rangeOf("a < 3", 1, 5);
        rangeOf("a < 4", 2, 5);
        rangeOf("a = 4", 1, 5);
        rangeOf("a > 4", 2, 5);
        rangeOf("a > 5", 1, 5);
        rangeOf("a < -9999", 0, 5);
        rangeOf("a < -9998", 1, 5);
        rangeOf("a = -9999", 1, 5);
        rangeOf("a > -9999", 4, 5);
        rangeOf("a > 9999", 0, 5);
        rangeOf("a > 9998", 1, 5);
        rangeOf("a = 9999", 1, 5);
        rangeOf("a < 9999", 4, 5);
        rangeOf("b = 1", 5, 2);
        rangeOf("b > -1", 5, 5);
        rangeOf("b > 1", 5, 0);
    }

    private static void rangeIsOfAColumnAndASignedAlone() {
        holds("in which a COLUMN alone, that one, is compared to a SIGNED alone (on the right)");
        rangeOf("4 > a", 5, 5);
        rangeOf("a + 0 < 4", 5, 5);
        rangeOf("a < 4 + 0", 5, 5);
        rangeOf("a < b", 5, 5);
        rangeOf("a < count", 5, 5);
        rangeOf("least a = 4", 5, 5);
        rangeOf("a * 1 = 4", 5, 5);
    }

    private static void rangeIsOfAllTests() {
        holds("below, just so, above it, for all of these");
        rangeOf("a > 3 and a < 5", 1, 5);
        rangeOf("a > 3 and a < 4", 0, 5);
        rangeOf("a < 5 and a > 3 and a < 9999", 1, 5);
        rangeOf("a > 3 and a > -9", 3, 5);
        rangeOf("a < 4 and a < 9", 2, 5);
        rangeOf("a = 3 and a = 4", 0, 5);
        rangeOf("a = 4 and b = 1", 1, 2);
        rangeOf("a > 3 and b = 1 and a + b = 7 and a < 5", 1, 2);
    }

    private static void rangeIsOfNoMerge() {
        holds("By an INDEX only ROWS are READ whose number in its first COLUMN is in the RANGE");
        BulkWriter w = good("columns 1;row 1;row 2;row 3;index a;update a = 9 where a < 3;update a = 9;delete where a > 1;");
        goes(w, 0, 1, 0, 0, 0, 2, 0);
        // without a test none is out of it: behind the third all that was written is met once more
        goes(w, 1, 1, 0, 0, 0, 6, 3);
        due("all", w.plan(1, 1, 3), 3);
        due("by places all", w.plan(2, 0, 3), 3);
        due("by the index two", w.plan(2, 2, 3), 2);
    }

    // ---- statements

    private static void allTestsHaveToHold() {
        holds("TESTED (all TESTS; without any it holds)");
        BulkWriter w = good("columns 2;row 1 1;row 1 2;row 2 2;delete;delete where a = 1;delete where a = 1 and b = 2;"
                + "delete where a = 1 and b = 2 and a = b;delete where a < 2 and b > 1;delete where a < 1;delete where b > 2;"
                + "delete where a = b and b = a;");
        int[] want = {3, 2, 1, 0, 1, 0, 0, 2};
        for (int i = 0; i < want.length; i++) {
            right(w, i, want[i], 0);
        }
    }

    private static void setsAreMadeByTheRowAsItIs() {
        holds("of 'update' what SETS tell (all by the ROW as it is then)");
        BulkWriter w = good("columns 4;row 1 2 3 4;update d = a, a = b, b = c, c = d;update b = a + 1;");
        w.run(0);
        row(w, 0, 2, 3, 4, 1);
        w.run(1);
        // what is not SET stays
        row(w, 0, 2, 3, 4, 1);
    }

    private static void newRowsLieAtTheFirstFreePlace() {
        holds("the new one lies at the first PLACE that is free");
        BulkWriter w = good("columns 1;row 1;row 2;row 3;row 4;insert a + 10 where a < 4;");
        w.take(1);
        due("two", w.run(0), 2);
        row(w, 1, 11);
        row(w, 4, 13);
        row(w, 5, HIDDEN);
        BulkWriter last = good("columns 1;" + "row 1;".repeat(29) + "row 2;insert 7 where a = 2;");
        last.take(0);
        due("the first of all", last.run(0), 1);
        row(last, 0, 7);
        last.undo();
        last.undo();
        last.take(28);
        due("the last but one", last.run(0), 1);
        row(last, 28, 7);
    }

    /** Where a number is over, the run ends: how many were written ahead tells in which order rows were read. */
    private static void rowsAreReadAlongThePath() {
        holds("A STATEMENT, of 'update', 'delete', 'insert': ROWS are READ along a PATH");
        BulkWriter w = good("columns 2;row 2 0;row 3 9999;row 1 0;index a;update b = b + 1;insert a, b + 1;"
                + "delete where a + count > 4;");
        goes(w, 0, 0, 0, 1, 2, 1, 0);
        goes(w, 0, 1, 0, 2, 2, 2, 0);
        goes(w, 0, 2, 0, 0, 2, 0, 0);
        goes(w, 0, 1, 3, 0, 2, 0, 0);
        goes(w, 1, 0, 2, 0, 2, 1, 0);
        goes(w, 1, 1, 2, 0, 2, 2, 0);
        goes(w, 1, 2, 2, 0, 2, 0, 0);
        // 5, then 5; 4, 5, then 5; down 6, then 4 and 3
        goes(w, 2, 0, 0, 0, 0, 2, 0);
        goes(w, 2, 1, 0, 0, 0, 2, 0);
        goes(w, 2, 2, 0, 0, 0, 1, 0);
    }

    private static void whatIsMadeIsWritten() {
        holds("of 'insert' a new row by VALUES; WRITTEN: the ROW has this; is gone; the new one lies");
        BulkWriter w = good("columns 2;row 1 10;row 2 20;row 3 30;update b = a where a = 2;delete where a = 2;"
                + "insert b, a where a = 2;");
        int[][] middle = {{2, 2}, {HIDDEN, HIDDEN}, {2, 20}};
        int[][] behind = {{HIDDEN, HIDDEN}, {HIDDEN, HIDDEN}, {20, 2}};
        for (int s = 0; s < 3; s++) {
            due("one", w.run(s), 1);
            row(w, 0, 1, 10);
            row(w, 1, middle[s]);
            row(w, 2, 3, 30);
            row(w, 3, behind[s]);
            w.undo();
        }
    }

    private static void mergeMatchesByTwoColumns() {
        holds("for each of OTHERS, as told, ROWS whose first COLUMN (told there) is what that one has in the second");
        BulkWriter w = good("columns 2;row 1 5;row 2 5;row 5 1;other 7 2;other 5 9;merge b a set a = 0 - other b;"
                + "merge a b set b = other a;merge a a keep insert other a, 0;");
        // b is other a: 5
        right(w, 0, 2, 0);
        w.run(0);
        row(w, 0, -9, 5);
        row(w, 1, -9, 5);
        row(w, 2, 5, 1);
        w.undo();
        // a is other b: 2
        w.run(1);
        row(w, 1, 2, 7);
        w.undo();
        // a is other a: 5, not 7
        due("a new row for the one without", w.run(2), 1);
        row(w, 3, 7, 0);
        BulkWriter none = good("columns 1;row 1;row 2;merge a a delete insert 5;");
        right(none, 0, 0, 0);
        BulkWriter empty = good("columns 1;other 1;other 2;merge a a delete insert other a;");
        due("each is new", empty.run(0), 2);
        row(empty, 0, 1);
        row(empty, 1, 2);
    }

    private static void mergeReadsByItsOwnIndex() {
        holds("(by an INDEX of which that COLUMN is the first these alone are READ, else all)");
        BulkWriter w = good("columns 2;row 1 1;row 1 2;row 2 1;other 1 1;other 2 2;other 3 3;index a b;index b a;"
                + "merge a a keep;merge b b keep;");
        int[][] want = {{9, 3, 3, 9, 9}, {9, 9, 9, 3, 3}};
        for (int statement = 0; statement < 2; statement++) {
            for (int path = 0; path < 5; path++) {
                due("read along " + path, w.plan(statement, path, 3), want[statement][path]);
            }
        }
        due("no others", good("columns 1;row 1;index a;merge a a keep;").plan(0, 0, 3), 0);
        due("no rows", good("columns 1;other 1;index a;merge a a keep;").plan(0, 1, 3), 0);
    }

    private static void mergeReadsAlongThePath() {
        holds("along the PATH (by an INDEX of which that COLUMN is the first");
        BulkWriter w = good("row 5 2 0;row 5 3 9999;row 5 1 0;row 6 9 0;other 5 0 0;other 6 0 0;index b;index a b;"
                + "merge a a set c = c + 1;");
        int[] ahead = {1, 2, 0, 2, 0};
        for (int path = 0; path < ahead.length; path++) {
            for (int stage = 0; stage < 3; stage++) {
                goes(w, 0, path, stage, ahead[path], 2, ahead[path], 0);
            }
            goes(w, 0, path, 3, 0, 2, 0, 0);
        }
    }

    private static void eachThatIsLikeIsAMatch() {
        holds("each is a MATCH");
        BulkWriter w = good("columns 2;row 1 0;row 1 0;row 2 0;row 1 0;other 1 7;merge a a set b = other b;merge a a delete;");
        due("three", w.run(0), 3);
        row(w, 0, 1, 7);
        row(w, 1, 1, 7);
        row(w, 2, 2, 0);
        row(w, 3, 1, 7);
        due("three", w.run(1), 3);
        due("one is left", w.count(1), 1);
    }

    private static void matchesAreSetOrGone() {
        holds("MADE: of a MATCH by SETS, gone ('delete')");
        BulkWriter w = good("columns 2;row 1 5;row 2 6;other 1 7;merge a a set a = b, b = other b + a;merge a a delete;");
        due("set", w.run(0), 1);
        row(w, 0, 5, 8);
        row(w, 1, 2, 6);
        w.undo();
        due("gone", w.run(1), 1);
        row(w, 0, HIDDEN, HIDDEN);
        row(w, 1, 2, 6);
    }

    private static void mergesHaveNoTest() {
        holds("all hold (no TEST)");
        BulkWriter w = good("columns 1;row -9999;row 0;row 9999;other -9999;other 0;other 9999;merge a a set a = 0 - a;"
                + "merge a a delete;");
        right(w, 0, 3, 0);
        right(w, 1, 3, 0);
        Edges.plan(w, 0, 0, 1, 1, 3, 9);
        Edges.bad(1, "merge a a keep ^where a = 1;");
        Edges.bad(1, "merge a a set a = 1 ^where a = 1;");
        Edges.bad(1, "merge a a delete insert 1, 2, 3 ^where a = 1;");
    }

    private static void mergeMakesANewRowOnlyWithoutAMatch() {
        holds("if there was none, and 'insert' is told, a new row");
        BulkWriter w = good("columns 1;row 1;row 1;other 1;other 2;other 2;merge a a keep insert other a;merge a a keep;"
                + "merge a a set a = 1 insert 9;");
        right(w, 0, 2, 0);
        right(w, 1, 0, 0);
        right(w, 2, 4, 0);
        w.run(0);
        row(w, 2, 2);
        row(w, 3, 2);
        row(w, 4, HIDDEN);
        // now none is without a match
        right(w, 0, 0, 0);
        // without a spool the second finds what the first has written
        BulkWriter live = good("columns 1;row 1;other 2;other 2;merge a a keep insert other a;");
        goes(live, 0, 0, 0, 1, 0, 1, 0);
        goes(live, 0, 0, 1, 0, 0, 2, 0);
    }

    private static void keptMatchesAreNotWritten() {
        holds("or nothing ('keep': it isn't WRITTEN)");
        BulkWriter w = good("columns 1;row 1;row 2;other 1;other 1;merge a a keep;");
        right(w, 0, 0, 0);
        due("it is an act", w.run(0), 0);
        due("none was written", w.count(1), 2);
        due("no cell is unlike", w.cell(0, 0), 1);
        for (int stage = 0; stage < 4; stage++) {
            goes(w, 0, 0, stage, 0, 0, 0, 0);
        }
    }

    // ---- spools

    private static void spoolsAtFourStages() {
        holds("A SPOOL at a STAGE: 0 none");
        // 1 becomes 2, is met, becomes 3, is met ..
        BulkWriter w = good("columns 1;row 1;index a;insert a + 1 where a < 5;");
        goes(w, 0, 1, 0, 0, 0, 4, 0);
        goes(w, 0, 1, 1, 0, 0, 1, 0);
        goes(w, 0, 1, 2, 0, 0, 1, 0);
        goes(w, 0, 1, 3, 0, 0, 1, 0);
        goes(w, 0, 2, 0, 0, 0, 1, 0);
        Edges.missing("no stage -1", () -> w.goes(0, 0, -1, 0));
        Edges.missing("no stage 4", () -> w.goes(0, 0, 4, 0));
    }

    private static void withoutASpoolEachIsWrittenAheadOfTheNext() {
        holds("each ROW is READ, TESTED, MADE, WRITTEN before the next is READ");
        BulkWriter w = good("columns 2;row 1 0;row 1 0;row 1 0;index a;update a = a + 1, b = sum a where sum a < 6;"
                + "update a = a + 1, b = sum a where sum a < 7;");
        // right: (2 3) three times; live (2 3) (2 4) (2 5)
        for (int path = 0; path < 3; path++) {
            goes(w, 0, path, 0, 2, 0, 3, 0);
        }
        // up: a sum of 6 is less than 7, so that (2 3) is read and becomes (3 6)
        goes(w, 1, 0, 0, 2, 0, 3, 0);
        goes(w, 1, 1, 0, 3, 0, 4, 1);
        goes(w, 1, 2, 0, 2, 0, 3, 0);
    }

    /** No run passes a row over: the one way to it would be a row that two of OTHERS match, and that is DOUBLE. */
    private static void noRowGoesMeanwhile() {
        holds("(A ROW that is gone meanwhile is passed over.)");
        BulkWriter twice = good("columns 1;row 1;other 1;other 1;merge a a delete;merge a a delete insert 5;");
        BulkWriter once = good("columns 1;row 1;row 1;row 2;other 1;other 2;merge a a delete;delete;delete where a = 1;");
        int[] all = {3, 3, 2};
        for (int stage = 0; stage < 4; stage++) {
            goes(twice, 0, 0, stage, 0, 1, 0, 0);
            goes(twice, 1, 0, stage, 0, 1, 0, 0);
            for (int s = 0; s < all.length; s++) {
                goes(once, s, 0, stage, 0, 0, all[s], 0);
            }
        }
    }

    private static void spoolBehindReading() {
        holds("1 behind READING: all are READ, then each TESTED, MADE, WRITTEN");
        // the test asks what has been written: 3, 4, then 5 rows
        BulkWriter w = good("columns 2;row 1 1;row 2 2;row 3 3;insert a, count where count < 5;");
        goes(w, 0, 0, 1, 2, 0, 2, 0);
        w.run(0);
        // right: all three of 3
        row(w, 3, 1, 3);
        row(w, 4, 2, 3);
        row(w, 5, 3, 3);
        // 9 and a sum of 10 are more than 15, 1 and that sum are not, till the 9 is a 20
        BulkWriter late = good("columns 1;row 9;row 1;update a = 20 where a + sum a > 15;");
        goes(late, 0, 0, 0, 1, 0, 2, 0);
        goes(late, 0, 0, 1, 1, 0, 2, 0);
        goes(late, 0, 0, 2, 0, 0, 1, 0);
        goes(late, 0, 0, 3, 0, 0, 1, 0);
    }

    private static void spoolsTestEachRowOnce() {
        holds("TESTED (all TESTS; without any it holds); MADE");
        BulkWriter w = good("columns 2;row 1 1;row 2 2;row 3 3;row 4 4;index a;update b = 0 where a + 0 > 3;delete where a + 0 < 3;"
                + "insert a, 5 where b = 2 and 3 > a;update b = 7;");
        int[] want = {1, 2, 1, 4};
        for (int stage = 0; stage < 4; stage++) {
            for (int s = 0; s < want.length; s++) {
                goes(w, s, 0, stage, 0, 0, want[s], 0);
                goes(w, s, 2, stage, 0, 0, want[s], 0);
            }
        }
    }

    private static void spoolBehindTheTest() {
        holds("2 behind the TEST: all READ and TESTED, then each MADE and WRITTEN");
        // (1 3) (2 4) (3 5) against (1 3) (2 3) (3 3), of which the last is there twice
        BulkWriter w = good("columns 2;row 1 1;row 2 2;row 3 3;insert a, count where count < 5;");
        goes(w, 0, 0, 2, 2, 0, 3, 0);
    }

    private static void spoolBehindMaking() {
        holds("3 behind MAKING: all are READ, TESTED, MADE, then WRITTEN");
        BulkWriter w = good("columns 2;row 1 1;row 2 2;row 3 3;insert a, count where count < 5;update b = b * 4000;");
        goes(w, 0, 0, 3, 0, 0, 3, 0);
        // the third is over: behind making none is written, ahead of it two are
        goes(w, 1, 0, 3, 0, 2, 0, 0);
        goes(w, 1, 0, 2, 2, 2, 2, 0);
        goes(w, 1, 0, 1, 2, 2, 2, 0);
        goes(w, 1, 0, 0, 2, 2, 2, 0);
    }

    private static void spoolHoldsWhatIsRead() {
        holds("It HOLDS: 1 one number for each that is READ (of a 'merge': for each MATCH, each new row)");
        BulkWriter w = good("columns 2;row 1 0;row 2 0;row 3 0;index a;update a = a + 1, b = 0 where a > 1;"
                + "update a = a + 1, b = 0 where a > 9;");
        Edges.plan(w, 0, 1, 1, 1, 2, 2);
        // nothing is read, nothing held
        Edges.plan(w, 1, 1, 1, 1, 0, 0);
        // two matches and one new row
        BulkWriter m = good("columns 2;row 1 0;row 1 0;row 2 0;other 1 0;other 3 0;index a;"
                + "merge a a set a = 1, b = 1 insert 1, 1;");
        Edges.plan(m, 0, 0, 1, 1, 3, 6);
        Edges.plan(m, 0, 1, 1, 1, 3, 2);
    }

    private static void spoolHoldsWhatHolds() {
        holds("2 one for each that holds");
        BulkWriter w = good("columns 2;row 1 0;row 2 0;row 3 0;delete where count > 2 and a > 1;"
                + "update a = 1, b = sum a where sum a = 6 and a = 3;insert a + 1, b where a + 0 > 2;");
        Edges.plan(w, 0, 0, 2, 2, 2, 3);
        Edges.plan(w, 1, 0, 6, 3, 3, 3);
        Edges.plan(w, 2, 0, 1, 2, 1, 3);
    }

    private static void spoolHoldsWhatIsMade() {
        holds("3 for each that holds 1, and one for each COLUMN that is SET ('insert': for each COLUMN; 'delete': 1 alone;"
                + " 'keep': nothing for a MATCH)");
        for (int columns = 1; columns <= 4; columns++) {
            String zeros = " 0".repeat(columns - 1);
            String sets = ", b = 1, c = 1, d = 1".substring(0, 7 * (columns - 1));
            String values = ", 1".repeat(columns - 1);
            BulkWriter w = good("columns " + columns + ";row 1" + zeros + ";row 2" + zeros + ";row 5" + zeros + ";other 1" + zeros
                    + ";other 3" + zeros + ";update a = sum a" + sets + " where a < 5;insert sum a" + values + " where a < 5;"
                    + "merge a a set a = sum a" + sets + " insert 3" + values + ";merge a a keep insert count" + values + ";"
                    + "merge a a delete insert count" + values + ";");
            Edges.plan(w, 0, 0, 4, 3, 2 * (1 + columns), 3);
            Edges.plan(w, 1, 0, 5, 3, 2 * (1 + columns), 3);
            Edges.plan(w, 2, 0, 5, 3, 1 + columns + 1 + columns, 6);
            Edges.plan(w, 3, 0, 5, 3, 1 + columns, 6);
            Edges.plan(w, 4, 0, 5, 3, 1 + 1 + columns, 6);
        }
        // one column is SET of two
        Edges.plan(good("columns 2;row 1 1;update a = sum a;"), 0, 0, 4, 3, 2, 1);
    }

    // ---- ends

    private static void doubleIsAMatchOfTwo() {
        holds("1 DOUBLE: a ROW that would be a MATCH of two of OTHERS ('set', 'delete'; all are looked at ahead of all else)");
        BulkWriter w = good("columns 1;row 1;row 2;other 2;other 2;merge a a set a = 1;merge a a delete;merge a a keep;"
                + "merge a a set a = 9999 + 1;merge a a delete insert 9999 + 1;merge a a keep insert other a;");
        right(w, 0, 0, 1, 1, 1);
        right(w, 1, 0, 1, 1, 1);
        right(w, 2, 0, 0);
        // ahead of what is over
        right(w, 3, 0, 1, 1, 1);
        right(w, 4, 0, 1, 1, 1);
        right(w, 5, 0, 0);
        due("ahead of reading", w.goes(0, 0, 0, 2), 0);
        w.take(1);
        // two that are alike, and no row for them
        right(w, 0, 0, 0);
        right(w, 1, 0, 0);
        right(w, 5, 2, 0);
        // as it is ahead of all writes: the second would match what the first makes
        BulkWriter live = good("columns 1;row 1;other 1;other 2;merge a a set a = 2;");
        goes(live, 0, 0, 0, 0, 0, 2, 1);
        right(live, 0, 1, 0);
    }

    private static void overIsBeyond9999() {
        holds("2 OVER: a number MADE is not -9999 to 9999");
        BulkWriter w = good("columns 2;row 5 -5;update a = 9999;update a = 9999 + 1;update a = -9999;update a = -9999 - 1;"
                + "insert 9999, -9999;insert 1, -9999 - 1;update b = 9999 + 1 where a = 6;update a = 9999 + 9999 - 9999;");
        right(w, 0, 1, 0);
        right(w, 1, 0, 2, 0, 0);
        right(w, 2, 1, 0);
        right(w, 3, 0, 2, 0, 0);
        right(w, 4, 1, 0);
        right(w, 5, 0, 2, 0, 1);
        // what is not made is not over
        right(w, 6, 0, 0);
        right(w, 7, 1, 0);
    }

    private static void overInOthers() {
        holds("a number MADE");
        BulkWriter w = good("columns 1;row 1;other 1;other 2;merge a a set a = 9999 + other a;merge a a set a = 9998 + other a;"
                + "merge a a keep insert 9998 + other a;merge a a keep insert 9997 + other a;merge a a delete;");
        right(w, 0, 0, 2, 0, 0);
        right(w, 1, 1, 0);
        right(w, 2, 0, 2, Edges.NONE, 0);
        right(w, 3, 1, 0);
        right(w, 4, 1, 0);
    }

    private static void fullIsTheThirtyFirst() {
        holds("3 FULL: a new row, and no PLACE is free");
        BulkWriter w = good("columns 1;" + "row 1;".repeat(28) + "row 2;insert 3 where a = 2;other 5;other 6;"
                + "merge a a keep insert other a;");
        right(w, 0, 1, 0);
        right(w, 1, 1, 3, Edges.NONE, Edges.NONE);
        due("the thirtieth", w.run(0), 1);
        row(w, 29, 3);
        right(w, 0, 0, 3, Edges.NONE, Edges.NONE);
        right(w, 1, 0, 3);
        Edges.keeps("the thirty-first", w, () -> w.run(0), 11);
        due("refused", w.run(0), -4);
        // none is asked for
        w.lay(28, 0, 9);
        right(w, 0, 0, 0);
        // a place that the same statement has made free
        BulkWriter freed = good("columns 1;" + "row 1;".repeat(29) + "row 2;other 2;other 3;merge a a delete insert other a;");
        right(freed, 0, 2, 0);
        freed.run(0);
        row(freed, 29, 3);
        BulkWriter late = good("columns 1;" + "row 1;".repeat(29) + "row 2;other 3;other 2;merge a a delete insert other a;");
        right(late, 0, 0, 3);
    }

    private static void endlessIsMoreThan200() {
        holds("4 ENDLESS: 200 were WRITTEN, and one more would be");
        BulkWriter w = good("columns 1;row 0;index a;update a = a + 1 where a < 199;update a = a + 1 where a < 200;"
                + "update a = a + 1 where a < 201;update a = a + 1 where a + 0 < 200;update a = a + 1 where a + 0 < 201;");
        goes(w, 0, 1, 0, 1, 0, 199, 1);
        goes(w, 1, 1, 0, 1, 0, 200, 1);
        goes(w, 2, 1, 0, 1, 4, 200, 1);
        // it is read once more, and doesn't hold
        goes(w, 3, 1, 0, 1, 0, 200, 1);
        goes(w, 4, 1, 0, 1, 4, 200, 1);
        right(w, 2, 1, 0);
        // what is written, not what is read
        BulkWriter many = good("columns 1;" + "row 0;".repeat(30) + "index a;update a = a + 1 where a < 7;"
                + "update a = a + 1 where a < 6;");
        goes(many, 1, 1, 0, 30, 0, 180, 30);
        // all thirty are 6 behind 180, twenty of them 7 behind 200
        goes(many, 0, 1, 0, 30, 4, 200, 30);
    }

    private static void clashIsAtTheEndAlone() {
        holds("5 CLASH: at the end a KEY has two ROWS alike; 0 WELL");
        BulkWriter w = good("columns 1;row 1;row 2;row 3;key a;update a = a + 1;update a = 4 - a;update a = 3 where a = 2;"
                + "insert a + 3;insert a + 2;");
        right(w, 0, 3, 0);
        right(w, 1, 3, 0);
        right(w, 2, 1, 5, 0, 102);
        right(w, 3, 3, 0);
        right(w, 4, 3, 5, 0, 203);
        due("by places", w.run(1), 3);
        row(w, 0, 3);
    }

    private static void endsStopWhatFollows() {
        holds("By 1 to 4 it ends there");
        // by over: the first becomes 2, the third stays 2; of 1, 5000, 2 only the 1 is there no more
        BulkWriter over = good("columns 1;row 1;row 5000;row 2;update a = a * 2;");
        goes(over, 0, 0, 0, 1, 2, 1, 0);
        // by full: others that could be changed come later
        BulkWriter full = good("columns 1;" + "row 1;".repeat(29) + "row 2;other 3;other 2;merge a a set a = 5 insert 3;");
        right(full, 0, 0, 3);
        // no clash is looked for then
        BulkWriter clash = good("columns 1;row -1;row -2;row -3;row -4;row -5;row -6;row -7;row -8;row -9;row -10;row -11;"
                + "row -12;row -13;row -14;row -15;row -16;row -17;row -18;row -19;row -20;row -21;row -22;row -23;row -24;"
                + "row -25;row -26;row -27;row -28;key a;insert 7;");
        right(clash, 0, 2, 3, Edges.NONE, Edges.NONE);
        due("on the way", clash.clashes(0), 0);
    }

    private static void rightRunGoesByPlacesBehindMaking() {
        holds("RIGHT: along PATH 0 with a SPOOL at 3");
        BulkWriter w = good("columns 2;row 3 0;row 2 0;row 1 0;index a;update b = count + sum b;insert a, 9;");
        w.run(0);
        row(w, 0, 3, 3);
        row(w, 2, 1, 3);
        w.run(1);
        row(w, 3, 3, 9);
        row(w, 5, 1, 9);
    }

    private static void rightTellsHowManyAndTheEnd() {
        holds("What it tells: how many it WRITES; its END");
        BulkWriter w = good("columns 1;row 1;row 2;key a;other 2;other 2;update a = a + 1;update a = 5;update a = a * 9999;"
                + "delete where a > 9;merge a a delete;");
        int[][] want = {{2, 0, -1, -1}, {2, 5, 0, 1}, {0, 2, 1, 0}, {0, 0, -1, -1}, {0, 1, 1, 1}};
        for (int s = 0; s < want.length; s++) {
            right(w, s, want[s]);
        }
        right(good("columns 1;" + "row 1;".repeat(28) + "insert 7;"), 0, 2, 3, -1, -1);
    }

    private static void whatIsRunGoesRight() {
        holds("A STATEMENT that is RUN goes so");
        BulkWriter w = good("columns 2;row 3 1;row 2 1;row 1 1;index a;update b = sum b;update a = a + 1;insert a + 1, 0;");
        int[][] rows = {{3, 3, 2, 3, 1, 3, HIDDEN, HIDDEN}, {4, 1, 3, 1, 2, 1, HIDDEN, HIDDEN}, {3, 1, 2, 1, 1, 1, 4, 0}};
        int[] wrong = {7, 2, 3};
        for (int s = 0; s < rows.length; s++) {
            due("another way goes wrong", w.wrongPaths(s), wrong[s]);
            due("all three", w.run(s), 3);
            for (int place = 0; place < 4; place++) {
                row(w, place, rows[s][2 * place], rows[s][2 * place + 1]);
            }
            w.undo();
        }
    }

    private static void doubleTellsTheFirst() {
        holds("by 1 the first ROW (by PLACE), the first two of OTHERS");
        BulkWriter w = good("columns 1;row 9;row 2;row 1;other 1;other 2;other 1;other 2;other 2;index a;merge a a delete;");
        right(w, 0, 0, 1, 1, 103);
        w.take(1);
        right(w, 0, 0, 1, 2, 2);
        w.lay(0, 0, 2);
        right(w, 0, 0, 1, 0, 103);
        BulkWriter last = good("columns 1;" + "row 0;".repeat(29) + "row 5;" + "other 1;".repeat(8) + "other 5;other 5;"
                + "merge a a set a = 1;");
        right(last, 0, 0, 1, 29, 809);
    }

    private static void overTellsTheRowAndTheLeastColumn() {
        holds("by 2 the ROW that was READ (of a new row of a 'merge': NONE), the least COLUMN that is so");
        BulkWriter w = good("columns 4;row 1 1 1 1;row 5 5 5 5;row 6 6 6 6;other 1 1 1 1;other 2 2 2 2;"
                + "update d = d * 2000, b = b * 2000, c = c * 2000;update d = d * 2000;insert a, b, c, d * 2000;"
                + "merge a a set d = 9999 insert 1, 9999, 9999 + 1, 9999 + 1;merge a a set d = 9999 + 1 insert 9999 + 1, 1, 1, 1;"
                + "insert a * 2000, 1, 1, 9999 * 2 where a = 6;");
        right(w, 0, 0, 2, 1, 1);
        right(w, 1, 0, 2, 1, 3);
        right(w, 2, 0, 2, 1, 3);
        right(w, 3, 0, 2, Edges.NONE, 2);
        right(w, 4, 0, 2, 0, 3);
        right(w, 5, 0, 2, 2, 0);
    }

    private static void clashTellsTheFirstKeyAndTheLeastPlaces() {
        holds("by 5 the first KEY, the least two PLACES (the less, then the other one)");
        BulkWriter w = good("columns 3;row 1 1 1;row 2 2 2;row 3 3 3;row 4 4 4;index a;key b;key c;"
                + "update a = 9, b = 9, c = 9;update c = 9 where a > 2;update b = 10 - b * 0 - b where a > 1;"
                + "update b = 8 where a > 2;update b = 1 where a = 4;update b = 5, c = 5 where a = 1;");
        right(w, 0, 4, 5, 1, 1);
        right(w, 1, 2, 5, 2, 203);
        right(w, 2, 3, 0);
        right(w, 3, 2, 5, 1, 203);
        // the first and the last
        right(w, 4, 1, 5, 1, 3);
        // not an index that isn't a key
        right(w, 5, 1, 0, Edges.NONE, Edges.NONE);
        // (0 3) is less than (1 2)
        BulkWriter pairs = good("columns 2;row 1 1;row 2 2;row 3 2;row 4 1;key a;key b a;update a = 0;");
        right(pairs, 0, 4, 5, 0, 1);
        BulkWriter inner = good("columns 2;row 1 1;row 2 2;row 3 2;row 4 1;key a;update a = b;");
        right(inner, 0, 4, 5, 0, 3);
        inner.take(0);
        right(inner, 0, 3, 5, 0, 102);
        BulkWriter last = good("columns 1;row 0;row 1;row 2;row 3;row 4;row 5;row 6;row 7;row 8;row 9;row 10;row 11;row 12;"
                + "row 13;row 14;row 15;row 16;row 17;row 18;row 19;row 20;row 21;row 22;row 23;row 24;row 25;row 26;row 27;"
                + "row 28;row 29;key a;update a = 28 where a = 29;");
        right(last, 0, 1, 5, 0, 2829);
    }

    private static void whatDoesNotEndWellIsUndone() {
        holds("if its END isn't 0, all is as ahead of it");
        BulkWriter w = good("columns 2;row 1 1;row 2 2;other 1 1;other 1 2;key a;merge a a set b = 9;update b = b * 5000;"
                + "update a = 1;insert a, b;update b = b + 1;");
        Edges.keeps("double", w, () -> w.run(0), 11);
        Edges.keeps("over", w, () -> w.run(1), 11);
        Edges.keeps("clash", w, () -> w.run(2), 11);
        Edges.keeps("clash", w, () -> w.run(3), 11);
        due("well", w.run(4), 2);
        row(w, 0, 1, 2);
        row(w, 1, 2, 3);
        BulkWriter full = good("columns 1;" + "row 1;".repeat(28) + "insert 7;");
        Edges.keeps("full, of which two were written", full, () -> full.run(0), 11);
        due("rows", full.count(1), 28);
        Edges.missing("no place was left taken", () -> full.along(0, 28));
    }
}
