/** Boundaries of the third part of the terms: what is told ahead of a run, what is seen, acts, images. */
public final class EdgeTellTests {
    public static void main(String[] args) throws ReflectiveOperationException, java.io.IOException {
        Edges.runAll(EdgeTellTests.class);
        Writing.end("EdgeTellTests");
    }

    private static void holds(String sentence) {
        Edges.holds("Terms 3", sentence);
    }

    private static BulkWriter good(String text) {
        return Edges.good(text);
    }

    private static void due(String what, long got, long want) {
        Edges.due(what, got, want);
    }

    private static void goes(BulkWriter w, int statement, int path, int stage, int... want) {
        Edges.goes(w, statement, path, stage, want);
    }

    private static void plan(BulkWriter w, int statement, int path, int... want) {
        Edges.plan(w, statement, path, want);
    }

    /** REASONS by places, up and down an index of a and b, up and down one of c. */
    private static void reasons(String statement, int... want) {
        BulkWriter w = good("row 1 1 1;row 2 2 2;other 1 1 1;index a b;index c;" + statement + ";");
        for (int path = 0; path < 5; path++) {
            due(statement + " along " + path, w.plan(0, path, 0), want[path]);
        }
    }

    // ---- reasons

    private static void updateMeetsWhatItMoves() {
        holds("'update': by an INDEX, if the first of its COLUMNS that is MOVED is MOVED otherwise than BACK");
        reasons("update a = a + 1", 0, 1, 0, 0, 0);
        reasons("update b = b + 1", 0, 1, 0, 0, 0);
        reasons("update c = c + 1", 0, 0, 0, 1, 0);
        // the first that is moved counts, not the second
        reasons("update a = a - 1, b = b + 1", 0, 0, 1, 0, 0);
        reasons("update b = 9, a = a - 1", 0, 0, 1, 0, 0);
        // the first isn't moved, so the second counts
        reasons("update a = a, b = b + 1", 0, 1, 0, 0, 0);
        reasons("update a = a + 0, b = b - 1", 0, 0, 1, 0, 0);
        // none is moved
        reasons("update a = a, b = b, c = c", 0, 0, 0, 0, 0);
        reasons("update a = 5", 0, 1, 1, 0, 0);
        // never by places; a delete never at all
        reasons("update a = b, b = c, c = a", 0, 1, 1, 1, 1);
        reasons("delete", 0, 0, 0, 0, 0);
    }

    private static void insertMeetsWhatItMakes() {
        holds("'insert': by PLACES; by an INDEX, if the first COLUMN of it that is MOVED in the new row is so otherwise than"
                + " BACK, or none is");
        reasons("insert a, b, c", 1, 1, 1, 1, 1);
        reasons("insert a + 0, b - 0, c - -0", 1, 1, 1, 1, 1);
        reasons("insert a - 1, b, c - 1", 1, 0, 1, 0, 1);
        reasons("insert a + 1, b, c + 1", 1, 1, 0, 1, 0);
        reasons("insert a, b - 1, c", 1, 0, 1, 1, 1);
        reasons("insert a, b + 1, c", 1, 1, 0, 1, 1);
        reasons("insert a - 1, b + 1, 5", 1, 0, 1, 1, 1);
    }

    private static void mergeMeetsWhatItSets() {
        holds("'merge': if its first COLUMN is SET, or one of the PATH's INDEX, or 'insert' is told");
        reasons("merge a b set a = 1", 1, 1, 1, 1, 1);
        reasons("merge c b set c = c", 1, 1, 1, 1, 1);
        // the second column told is that of others
        reasons("merge c b set b = 1", 0, 1, 1, 0, 0);
        reasons("merge b a set a = 1", 0, 1, 1, 0, 0);
        reasons("merge b a set c = 1", 0, 0, 0, 1, 1);
        reasons("merge b a keep insert 1, 1, 1", 1, 1, 1, 1, 1);
        reasons("merge b a delete insert 1, 1, 1", 1, 1, 1, 1, 1);
        reasons("merge b a keep", 0, 0, 0, 0, 0);
        reasons("merge b a delete", 0, 0, 0, 0, 0);
        BulkWriter four = good("columns 4;index d;merge a a set c = 1;merge a a set d = 1;");
        due("not a column of the index", four.plan(0, 1, 0), 0);
        due("a column of the index", four.plan(1, 2, 0), 1);
    }

    private static void zeroMovesNothing() {
        holds("otherwise than by that COLUMN alone, or by it and a SIGNED that is 0 added or taken off");
        for (String still : new String[] {"a", "a + 0", "a - 0", "a + -0", "a - -0", "a + 0000"}) {
            reasons("update a = " + still, 0, 0, 0, 0, 0);
        }
        for (String moved : new String[] {"b", "0", "a * 0", "a * 1", "b + 0", "a + b", "a - a", "a + count", "a + 0 + 0",
                "a + 1 - 1", "a * -1", "least a"}) {
            BulkWriter w = good("index a;update a = " + moved + ", b = 0;");
            due(moved + " up", w.plan(0, 1, 0) % 2, 1);
            due(moved + " down", w.plan(0, 2, 0) % 2, 1);
        }
    }

    private static void movedIsWhatIsSet() {
        holds("A COLUMN is MOVED, if it is SET (told anew by 'insert')");
        reasons("update c = 5", 0, 0, 0, 1, 1);
        reasons("update b = 5", 0, 1, 1, 0, 0);
        reasons("update a = 5, c = 5", 0, 1, 1, 1, 1);
        reasons("insert 5, b, c", 1, 1, 1, 1, 1);
        reasons("insert a, 5, c - 1", 1, 1, 1, 0, 1);
        reasons("insert a - 1, 5, 5", 1, 0, 1, 1, 1);
        reasons("insert b, a, c + 1", 1, 1, 1, 1, 0);
    }

    private static void movedBackByItselfAndASigned() {
        holds("MOVED BACK, if it is SET by it and another SIGNED,");
        reasons("update c = c - 1", 0, 0, 0, 0, 1);
        reasons("update c = c + 1", 0, 0, 0, 1, 0);
        reasons("update b = b - 7", 0, 0, 1, 0, 0);
        for (String other : new String[] {"a - 7", "c - 7", "b - a", "b - count", "b - sum c", "7 - b", "7 + b", "-7", "b - 7 - 0"}) {
            reasons("update b = " + other, 0, 1, 1, 0, 0);
        }
    }

    private static void backIsLessUpMoreDown() {
        holds("added or taken off, so that it is less (up), more (down)");
        reasons("update a = a - 1", 0, 0, 1, 0, 0);
        reasons("update a = a + -1", 0, 0, 1, 0, 0);
        reasons("update a = a - 9999", 0, 0, 1, 0, 0);
        reasons("update a = a + 1", 0, 1, 0, 0, 0);
        reasons("update a = a - -1", 0, 1, 0, 0, 0);
        reasons("update a = a + 9999", 0, 1, 0, 0, 0);
        reasons("update a = a - 1 - 1", 0, 1, 1, 0, 0);
        reasons("update a = a * 2", 0, 1, 1, 0, 0);
        reasons("update a = b - 1", 0, 1, 1, 0, 0);
    }

    private static void testsAskOfTheWholeTable() {
        holds("2: a TEST asks what it CHANGES of the whole TABLE: by 'update' 'sum', 'least', 'most' of a COLUMN that is SET;"
                + " by 'delete', 'insert' any of these, and 'count'");
        for (String word : new String[] {"sum", "least", "most"}) {
            reasons("update a = a where " + word + " a > 0", 2, 2, 2, 2, 2);
            reasons("update a = a where " + word + " b > 0", 0, 0, 0, 0, 0);
            reasons("update a = a where b < 0 and 0 < 1 + " + word + " a", 2, 2, 2, 2, 2);
            reasons("delete where " + word + " b > 0", 2, 2, 2, 2, 2);
            reasons("insert 1, 2, 3 where 5 > " + word + " c", 3, 3, 3, 3, 3);
        }
        reasons("update a = a where count > 0", 0, 0, 0, 0, 0);
        reasons("delete where count > 0", 2, 2, 2, 2, 2);
        reasons("insert 1, 2, 3 where count > 0", 3, 3, 3, 3, 3);
        reasons("delete where a > 0", 0, 0, 0, 0, 0);
        // of the statement itself, not of another one
        BulkWriter w = good("delete;delete where count > 1;delete;");
        due("ahead of it", w.plan(0, 0, 0), 0);
        due("of it", w.plan(1, 0, 0), 2);
        due("behind it", w.plan(2, 0, 0), 0);
    }

    private static void makingAsksOfTheWholeTable() {
        holds("4: what is MADE asks that (of 'merge': by 'set' of a COLUMN that is SET; of any, and 'count', if 'delete' or"
                + " 'insert' is told)");
        for (String word : new String[] {"sum", "least", "most"}) {
            reasons("update b = " + word + " b", 4, 5, 5, 4, 4);
            reasons("update b = " + word + " a", 0, 1, 1, 0, 0);
            reasons("update b = b + 1, c = " + word + " b", 4, 5, 4, 5, 5);
            reasons("insert a - 1, " + word + " a, c", 5, 4, 5, 5, 5);
            reasons("merge a a set b = " + word + " b", 4, 5, 5, 4, 4);
            reasons("merge a a set b = " + word + " c", 0, 1, 1, 0, 0);
            reasons("merge a a set b = " + word + " c insert 1, 1, 1", 5, 5, 5, 5, 5);
            reasons("merge a a delete insert 1, 1, " + word + " a", 5, 5, 5, 5, 5);
            reasons("merge a a keep insert 1, 1, " + word + " a", 5, 5, 5, 5, 5);
        }
        reasons("update b = count", 0, 1, 1, 0, 0);
        reasons("insert 1, 1, count", 5, 5, 5, 5, 5);
        reasons("merge a a set b = count", 0, 1, 1, 0, 0);
        reasons("merge a a set b = count insert 1, 1, 1", 5, 5, 5, 5, 5);
        reasons("merge a a set b = 1 insert count, 1, 1", 5, 5, 5, 5, 5);
        reasons("merge a a delete insert 1, 1, count", 5, 5, 5, 5, 5);
        reasons("merge a a keep insert 1, 1, count", 5, 5, 5, 5, 5);
        reasons("update b = sum b where most b > 0", 6, 7, 7, 6, 6);
    }

    // ---- planned

    private static void withoutReasonsThereIsNoSpool() {
        holds("PLANNED: without REASONS stage 0");
        BulkWriter w = good("columns 1;row 1;row 2;index a;update a = a + 1;");
        plan(w, 0, 0, 0, 0, 0, 2);
        plan(w, 0, 1, 1, 1, 2, 2);
        plan(w, 0, 2, 0, 0, 0, 2);
    }

    private static void plannedWhereFewestAreHeld() {
        holds("else of stages 1 to 3 (by 2: of 2, 3; by 4: 3 alone) that at which it HOLDS fewest numbers");
        BulkWriter w = good("columns 2;row 1 0;row 2 0;row 3 0;index a;update a = a + 1;update a = a + 1 where a + 0 > 2;"
                + "update a = a + 1 where a + 0 > 2 and sum a > 0;update a = sum a where a > 2;delete where count > 0;"
                + "merge a a keep insert 1, 1;other 1 0;other 2 0;other 7 0;");
        // by 1: 3, 3, 6
        plan(w, 0, 1, 1, 1, 3, 3);
        // by 1: 3, 1, 2
        plan(w, 1, 1, 1, 2, 1, 3);
        // by 3: 2 of 1, 3 of 2
        plan(w, 2, 1, 3, 2, 1, 3);
        // by 4 alone
        plan(w, 3, 0, 4, 3, 2, 3);
        // by 2 stages 2 and 3 hold 3 each, the first of like ones
        plan(w, 4, 0, 2, 2, 3, 3);
        // two matches and a new row: 3, 3, and 3 of the new row alone
        plan(w, 5, 0, 1, 1, 3, 9);
    }

    private static void plannedTheFirstOfLikeOnes() {
        holds("of like ones the first)");
        BulkWriter w = good("columns 2;row 1 0;index a;update a = a + 1;update a = a + 1 where a + 0 > 1;"
                + "delete where count > 0;insert a, b where a > 1;");
        plan(w, 0, 1, 1, 1, 1, 1);
        // 1, 0, 0
        plan(w, 1, 1, 1, 2, 0, 1);
        plan(w, 2, 0, 2, 2, 1, 1);
        // nothing is read: 0, 0, 0
        plan(w, 3, 1, 1, 1, 0, 0);
        // 'keep' holds nothing for a match at 3: of one match and no new row 1, 1, 0
        BulkWriter kept = good("columns 1;row 1;other 1;merge a a keep insert 1;");
        plan(kept, 0, 0, 1, 3, 0, 1);
    }

    private static void plannedWhateverTheEnd() {
        holds("READ, TESTED, MADE ahead of all WRITES, whatever its END");
        BulkWriter over = good("columns 1;row 1;row 2;row 3;update a = sum a + 9999;");
        due("it is over", over.right(0, 1), 2);
        plan(over, 0, 0, 4, 3, 6, 3);
        BulkWriter twice = good("columns 1;row 1;row 2;other 1;other 1;merge a a set a = 1;");
        due("it is double", twice.right(0, 1), 1);
        // each of two matches is held
        plan(twice, 0, 0, 1, 1, 2, 4);
        BulkWriter full = good("columns 1;" + "row 1;".repeat(30) + "insert a;");
        due("it is full", full.right(0, 1), 3);
        plan(full, 0, 0, 1, 1, 30, 30);
    }

    private static void otherwiseCountsEachAsOftenAsItIsThere() {
        holds("OTHERWISE: how many ROWS, by their numbers, each as often as it is there, of those at the end of the RIGHT run"
                + " aren't there at the end of a run");
        // right: 5 four times; live by places thirty times
        BulkWriter w = good("columns 1;row 5;row 5;index a;insert 5;delete where count > 1;insert a where a = count + 3;");
        due("more of them are no others", w.goes(0, 0, 0, 0), 0);
        // right leaves none, so that none can be lacking, though one is left
        goes(w, 1, 0, 0, 0, 0, 1, 0);
        // right: 5 5 5 5; live only the first: 5 5 5
        goes(w, 2, 0, 0, 1, 0, 1, 0);
        // by their numbers, not by their places
        BulkWriter places = good("columns 2;row 1 0;row 2 0;index a;insert a + 5, 0;");
        goes(places, 0, 2, 1, 0, 0, 2, 0);
        // all columns count
        BulkWriter columns = good("columns 4;row 1 2 3 4;row 1 2 3 5;update d = sum d;");
        goes(columns, 0, 0, 0, 1, 0, 2, 0);
    }

    private static void otherwiseWhateverTheEnds() {
        holds("(whatever the ENDS, nothing being undone)");
        // right: over, nothing is written; live: the first is
        BulkWriter over = good("columns 1;row 1;row 9999;update a = a + 1;");
        goes(over, 0, 0, 0, 1, 2, 1, 0);
        goes(over, 0, 0, 1, 1, 2, 1, 0);
        // right: full behind two writes, which are there
        BulkWriter full = good("columns 1;" + "row 1;".repeat(28) + "insert a + 1;");
        goes(full, 0, 0, 1, 0, 3, 2, 0);
        goes(full, 0, 0, 0, 0, 3, 2, 0);
        // a clash isn't undone either
        BulkWriter clash = good("columns 1;row 1;row 2;key a;update a = 7;");
        goes(clash, 0, 0, 0, 0, 0, 2, 0);
        goes(clash, 0, 1, 0, 0, 0, 4, 2);
    }

    private static void twiceIsTwoAndMore() {
        holds("TWICE: how many PLACES were WRITTEN to twice or more in it (new rows, too)");
        BulkWriter w = good("columns 1;row 0;row 0;index a;update a = a + 1 where a < 1;update a = a + 1 where a < 2;"
                + "update a = a + 1 where a < 3;");
        goes(w, 0, 1, 0, 0, 0, 2, 0);
        goes(w, 1, 1, 0, 2, 0, 4, 2);
        goes(w, 2, 1, 0, 2, 0, 6, 2);
        // a new row where one has gone; a new row that is met
        BulkWriter m = good("columns 1;row 1;other 1;other 2;other 2;merge a a delete insert other a;"
                + "merge a a set a = 3 insert other a;");
        goes(m, 0, 0, 3, 0, 0, 3, 1);
        // the second 2 finds the new row of the first, and both are lacking
        goes(m, 0, 0, 0, 2, 0, 3, 1);
        goes(m, 1, 0, 0, 2, 0, 3, 1);
    }

    private static void wrongPathsByEndOrByRows() {
        holds("WRONG PATHS: those by which a run with no SPOOL has another END (5 aside), or any ROW OTHERWISE (bits; of PATHS"
                + " that there are)");
        BulkWriter w = good("columns 2;row 1 1;row 2 2;index a;key b;index b a;update a = a + 1;update a = a - 1;update b = 7;"
                + "update b = b + 1 where b < 3;update a = a;insert a, 9 where count < 4;update b = b + 1, a = 1;");
        // by the third index, too, of which a is the second column
        due("up", w.wrongPaths(0), 2 + 32);
        due("down", w.wrongPaths(1), 4 + 64);
        // a clash is no other end, and all are 7
        due("clash", w.wrongPaths(2), 0);
        // up the others: 1 to 3, 2 to 3 are (1 3) (2 3), right (1 2) (2 3)
        due("up the second and the third", w.wrongPaths(3), 8 + 32);
        due("none", w.wrongPaths(4), 0);
        BulkWriter none = good("columns 1;row 1;update a = a + 1;insert a;");
        due("by places alone", none.wrongPaths(0), 0);
        due("full by places", none.wrongPaths(1), 1);
        // the same rows, another end: by places and up it gets full, and all that right has is there
        BulkWriter end = good("columns 1;row 1;index a;insert a where a = 1;delete;");
        due("none otherwise", end.goes(0, 0, 0, 0), 0);
        due("another end alone", end.wrongPaths(0), 3);
        due("nothing is left", end.wrongPaths(1), 0);
        // all seven: right 3 and 3, else 3 and 5, 4 and 3
        BulkWriter seven = good("row 1 0 0;row 2 0 0;index a;index a;index a;update a = sum a;");
        due("seven", seven.wrongPaths(0), 127);
    }

    private static void costIsReadAndHeld() {
        holds("COST of a PATH: how many ROWS are READ (of a 'merge': for all of OTHERS), and numbers HELD as PLANNED");
        BulkWriter w = good("columns 2;row 1 1;row 2 2;row 3 3;index a;update a = a + 1 where a > 1;delete where a > 9;"
                + "merge a a set b = 1;merge b b set a = 1;other 1 1;other 5 5;");
        // by places 3; up 2 and 2 held; down 2
        due("which", w.cheapest(0, 0), 2);
        due("cost", w.cheapest(0, 1), 2);
        due("nothing is read", w.cheapest(1, 0), 1);
        due("nothing is read", w.cheapest(1, 1), 0);
        // 6 by places, by the index 1
        due("merge", w.cheapest(2, 0), 1);
        due("merge", w.cheapest(2, 1), 1);
        // 6 by places; by the index 6 and 1 held
        due("merge", w.cheapest(3, 0), 0);
        due("merge", w.cheapest(3, 1), 6);
    }

    private static void cheapestIsTheFirstOfLikeOnes() {
        holds("CHEAPEST: the PATH of least COST (of like ones the first)");
        BulkWriter w = good("columns 2;row 1 1;row 2 2;index a;index b;index a b;delete;delete where a = 1;delete where b = 1;"
                + "update a = 5 where b = 1;");
        due("all are alike", w.cheapest(0, 0), 0);
        due("all are alike", w.cheapest(0, 1), 2);
        due("1, 2, 5, 6 are alike", w.cheapest(1, 0), 1);
        due("3, 4 are alike", w.cheapest(2, 0), 3);
        due("3, 4 are alike", w.cheapest(3, 0), 3);
        due("no rows", good("columns 1;index a;delete;").cheapest(0, 1), 0);
        // down is the cheapest though the last
        due("the last", good("columns 2;row 1 1;row 2 2;index b;index b;update b = b + 1 where b > 1;").cheapest(0, 0), 2);
    }

    // ---- keys on the way

    private static void onTheWayButTheLast() {
        holds("ON THE WAY: behind how many WRITES of the RIGHT run, but the last, a KEY has two ROWS alike");
        BulkWriter w = good("columns 1;row 1;row 2;row 3;key a;update a = a + 1;update a = a - 1;update a = 2 where a = 1;"
                + "update a = 9 where a = 9;update a = 7;delete;update a = 4 - a;insert a + 2;");
        // 2 2 3, 2 3 3, 2 3 4
        due("two", w.clashes(0), 2);
        due("none", w.clashes(1), 0);
        // one write, the last
        due("the last", w.clashes(2), 0);
        due("no write", w.clashes(3), 0);
        // 7 2 3, 7 7 3, 7 7 7: whatever the end
        due("one of three", w.clashes(4), 1);
        due("deleted", w.clashes(5), 0);
        // 3 2 3, 3 2 3, 3 2 1
        due("two", w.clashes(6), 2);
        // 3 of a new row is there; then 4, 5
        due("from the first on", w.clashes(7), 2);
        due("an index is no key", good("columns 1;row 1;row 2;row 3;index a;update a = a + 1;").clashes(0), 0);
        due("over writes nothing", good("columns 1;row 1;row 2;key a;update a = 9999 + 1;").clashes(0), 0);
    }

    private static void orderOfTheFirstThatMayBe() {
        holds("AN ORDER of what it WRITES (0 on, as the RIGHT run does), in which no KEY has two alike at any time: each time the"
                + " first that may be WRITTEN");
        BulkWriter w = good("columns 1;row 1;row 2;row 3;row 9;key a;update a = a + 1;update a = a - 1;delete;update a = 5 where a = 9;"
                + "update a = a where a = 7;");
        int[][] want = {{2, 1, 0, 3}, {0, 1, 2, 3}, {0, 1, 2, 3}, {0}, {}};
        for (int s = 0; s < want.length; s++) {
            due("how many of " + s, w.order(s, -1), want[s].length);
            for (int i = 0; i < want[s].length; i++) {
                due("order(" + s + ", " + i + ")", w.order(s, i), want[s][i]);
            }
            int behind = want[s].length;
            int statement = s;
            Edges.missing("behind the last", () -> w.order(statement, behind));
        }
        // a new row waits for a place: all thirty are taken till one goes
        BulkWriter full = good("columns 1;" + "row 1;".repeat(29) + "row 2;other 2;other 3;merge a a delete insert other a;");
        due("both", full.order(0, -1), 2);
        due("first what goes", full.order(0, 0), 0);
        due("then what comes", full.order(0, 1), 1);
    }

    private static void orderIsOfAllKeys() {
        holds("(by which no KEY has two ROWS alike then)");
        String rows = "columns 2;row 1 1;row 2 2;";
        String update = "update a = a + 1, b = 3 - b;";
        // (2 2) (3 1): the first can't be by a, nor the second by b
        BulkWriter both = good(rows + "key a;key b;" + update);
        Edges.right(both, 0, 2, 0);
        due("none", both.order(0, -1), -1);
        for (String keys : new String[] {"key a;index b;", "key a b;", "index b;index a;key b a;"}) {
            BulkWriter w = good(rows + keys + update);
            due(keys, w.order(0, -1), 2);
            due(keys, w.order(0, 0), 1);
            due(keys, w.order(0, 1), 0);
        }
        BulkWriter none = good(rows + "index a;index b;" + update);
        due("no key", none.order(0, 0), 0);
    }

    private static void orderThatThereIsNot() {
        holds("none, if it comes to an end ahead of all, or the END isn't 0");
        BulkWriter w = good("columns 1;row 1;row 2;row 3;key a;update a = 3 - a where a < 3;update a = 9;update a = 9999 + 1;"
                + "update a = 7 * a - a * a - 3 where a < 3;");
        due("swapped", w.order(0, -1), -1);
        Edges.missing("swapped", () -> w.order(0, 0));
        due("clash", w.order(1, -1), -1);
        due("over", w.order(2, -1), -1);
        Edges.missing("over", () -> w.order(2, 0));
        due("the swapped one ends well", w.right(0, 1), 0);
        BulkWriter full = good("columns 1;" + "row 1;".repeat(30) + "insert 1;");
        due("full", full.order(0, -1), -1);
        BulkWriter twice = good("columns 1;row 1;other 1;other 1;merge a a delete;");
        due("double", twice.order(0, -1), -1);
        // one can be written, then it comes to an end: 1 and 2 swap, 3 goes on
        BulkWriter part = good("columns 2;row 1 2;row 2 1;row 3 7;key a;update a = b;");
        due("well", part.right(0, 1), 0);
        due("only one of three", part.order(0, -1), -1);
        Edges.missing("only one of three", () -> part.order(0, 0));
    }

    // ---- what is seen

    private static void seenIsEightAtMost() {
        holds("SEEN (at most 8): that a COLUMN of the ROW at a PLACE is a number (or there is no ROW: HIDDEN) behind one STATEMENT"
                + " more");
        BulkWriter w = good("columns 2;row 1 2;update a = 5;delete;");
        for (int i = 1; i <= 7; i++) {
            due("seen", w.see(0, 0, 5), i);
        }
        due("the eighth", w.see(0, 1, 2), 8);
        due("eight fit", w.fits(), 1);
        Edges.keeps("the ninth", w, () -> w.see(0, 1, 3), 12);
        due("the ninth", w.see(0, 1, 3), -1);
        due("is none of it", w.fits(), 1);
        w.forget();
        w.see(0, 1, Edges.HIDDEN);
        due("no row behind the second", w.fits(), 2);
        w.see(29, 0, Edges.HIDDEN);
        due("nor there", w.fits(), 2);
        w.see(29, 0, 0);
        due("0 is not hidden", w.fits(), 0);
        // the eighth counts
        w.forget();
        for (int i = 0; i < 7; i++) {
            w.see(0, 0, 5);
        }
        w.see(0, 1, 3);
        due("the eighth is unlike", w.fits(), 0);
    }

    private static void fitsOfAllThatIsSeen() {
        holds("FITS: STATEMENTS by which, RUN now, all SEEN is so (bits)");
        BulkWriter w = good("columns 1;row 1;row 2;update a = 5 where a = 1;update a = 6 where a = 2;update a = 9999 + 1;delete;"
                + "insert 1;update a = a;update a = 1;delete where a = 2;");
        due("all eight without any", w.fits(), 255);
        w.see(0, 0, 1);
        due("1 stays by all but the first and delete", w.fits(), 255 - 1 - 8);
        w.see(1, 0, 2);
        // what is over leaves all as it is
        due("2 stays", w.fits(), 4 + 16 + 32);
        w.see(2, 0, 1);
        due("a new one", w.fits(), 16);
        due("no statement", good("row 1 2 3;").fits(), 0);
        // a new row lies where the one that goes by places lays it
        BulkWriter laid = good("columns 1;row 3;row 1;index a;insert a + 10;insert 14 - a;");
        laid.see(2, 0, 13);
        due("of the first", laid.fits(), 1);
        laid.see(3, 0, 11);
        due("of the second, too", laid.fits(), 1);
        BulkWriter none = good("row 1 2 3;");
        none.see(0, 0, 1);
        due("no statement", none.fits(), 0);
    }

    private static void lookNextTheMostUnlike() {
        holds("the PLACE and COLUMN (10 by it, and the COLUMN; of like ones the least) that is most unlike behind these (no ROW: one"
                + " more unlike): which; how many unlike");
        BulkWriter w = good("columns 4;row 1 1 1 1;row 2 2 2 2;update d = 5 where a = 2;update d = 6 where a = 2;"
                + "delete where a = 2;update a = 7 where a = 1;update a = 8 where a = 1;");
        // (0 a) is 1, 7, 8; (1 d) is 5, 6, none, 2
        due("which", w.look(0), 13);
        due("how many", w.look(1), 4);
        w.see(1, 0, 2);
        // without the one that deletes both are three
        due("the least of like ones", w.look(0), 0);
        due("how many", w.look(1), 3);
        BulkWriter last = good("columns 4;" + "row 1 1 1 1;".repeat(29) + "row 2 2 2 2;update d = 5 where a = 2;update a = a;");
        due("the last place and column", last.look(0), 293);
        due("how many", last.look(1), 2);
        // no row at a place where another statement lays one
        BulkWriter row = good("columns 2;row 1 1;insert 3, 3;insert 4, 4;update a = 1;delete where a = 3;");
        due("which", row.look(0), 10);
        due("3, 4, none", row.look(1), 3);
        // none of two is unlike: the least
        BulkWriter like = good("columns 2;row 1 1;update a = 1;update a = a;");
        due("all are alike", like.look(0), 0);
        due("all are alike", like.look(1), 1);
        // all eight are unlike
        StringBuilder text = new StringBuilder("columns 1;row 50;");
        for (int i = 0; i < 8; i++) {
            text.append("update a = ").append(i).append(";");
        }
        BulkWriter eight = good(text.toString());
        due("which", eight.look(0), 0);
        due("eight", eight.look(1), 8);
        eight.see(0, 0, 7);
        due("one fits", eight.look(0), 0);
        due("one fits", eight.look(1), 1);
    }

    private static void lookNextWithoutAny() {
        holds("how many unlike; none without any");
        BulkWriter none = good("row 1 1 1;");
        due("no statement", none.look(0), -1);
        due("no statement", none.look(1), 0);
        BulkWriter w = good("columns 1;row 1;update a = 2;");
        due("one", w.look(0), 0);
        w.see(0, 0, 3);
        due("none fits", w.look(0), -1);
        due("none fits", w.look(1), 0);
        w.forget();
        due("one", w.look(1), 1);
    }

    // ---- years

    private static int stirred(int seed) {
        return seed * 1103515245 + 12345;
    }

    private static int drawn(int seed, int n) {
        return (seed >> 16 & 32767) % n;
    }

    /** The first seed from 0 on by which these are drawn: pairs of what it is drawn of and what comes. */
    private static int seedOf(int... draws) {
        for (int seed = 0; seed < 50_000_000; seed++) {
            int chance = seed;
            boolean isSo = true;
            for (int i = 0; i < draws.length && isSo; i += 2) {
                chance = stirred(chance);
                isSo = drawn(chance, draws[i]) == draws[i + 1];
            }
            if (isSo) {
                return seed;
            }
        }
        throw new IllegalStateException("no such seed");
    }

    private static void years(BulkWriter w, int seed, int n, int... want) {
        for (int what = 0; what < 3; what++) {
            due("years(" + seed + ", " + n + ", " + what + ")", w.years(seed, n, what), want[what]);
        }
    }

    private static void yearsDrawOfThree() {
        holds("a DRAW of 3: 0, 1 a DRAW of STATEMENTS is RUN (nothing without any)");
        BulkWriter w = good("columns 1;row 1;row 1;row 1;update a = 2 where a = 1;delete;update a = 3;");
        years(w, seedOf(3, 0, 3, 0), 1, 3, 0, 3);
        years(w, seedOf(3, 1, 3, 0), 1, 3, 0, 3);
        years(w, seedOf(3, 0, 3, 1), 1, 3, 0, 0);
        years(w, seedOf(3, 1, 3, 2), 1, 3, 0, 3);
        // a 2 is no run
        years(w, seedOf(3, 2, 30, 29, 1, 0, 10, 9), 1, 0, 0, 3);
        // one behind the other: the second finds what the first has left
        years(w, seedOf(3, 0, 3, 0, 3, 0, 3, 0), 2, 3, 0, 3);
        years(w, seedOf(3, 0, 3, 0, 3, 0, 3, 1), 2, 6, 0, 0);
        years(w, seedOf(3, 0, 3, 1, 3, 0, 3, 1), 2, 3, 0, 0);
        BulkWriter none = good("columns 1;row 1;row 2;");
        years(none, seedOf(3, 0), 20, 0, 0, 2);
        years(none, seedOf(3, 2), 20, 0, 0, 2);
    }

    private static void yearsLayNumbers() {
        holds("2 a DRAW of 30, a DRAW of COLUMNS, a DRAW of 10: there the number is LAID, if it can be");
        StringBuilder text = new StringBuilder("columns 4;");
        for (int i = 0; i < 30; i++) {
            text.append("row ").append(100 + i).append(" 50 50 50;");
        }
        BulkWriter w = good(text + "delete where a = 129 and d = 9;delete where a = 100 and d = 0;");
        years(w, seedOf(3, 2, 30, 29, 4, 3, 10, 9, 3, 0, 2, 0), 2, 1, 0, 29);
        years(w, seedOf(3, 2, 30, 0, 4, 3, 10, 0, 3, 1, 2, 1), 2, 1, 0, 29);
        years(w, seedOf(3, 2, 30, 29, 4, 3, 10, 8, 3, 0, 2, 0), 2, 0, 0, 30);
        years(w, seedOf(3, 2, 30, 29, 4, 2, 10, 9, 3, 0, 2, 0), 2, 0, 0, 30);
        // a key: 7 is there at another place; no row at place 2
        BulkWriter key = good("columns 1;row 5;row 7;key a;delete where a = 5;insert 9;");
        years(key, seedOf(3, 2, 30, 0, 1, 0, 10, 7, 3, 0, 2, 0), 2, 1, 0, 1);
        years(key, seedOf(3, 2, 30, 0, 1, 0, 10, 6, 3, 0, 2, 0), 2, 0, 0, 2);
        years(key, seedOf(3, 2, 30, 1, 1, 0, 10, 7, 3, 0, 2, 0), 2, 1, 0, 1);
        years(key, seedOf(3, 2, 30, 2, 1, 0, 10, 5, 3, 0, 2, 0), 2, 1, 0, 1);
        due("nothing is laid", key.cell(0, 0), 5);
    }

    private static void yearsTellWellAndNot() {
        holds("how many are WRITTEN by those that end WELL; how many don't; how many ROWS there are at the end");
        BulkWriter w = good("columns 1;row 1;row 2;key a;update a = 2;update a = a + 3;update a = 9999 + 1;delete;");
        years(w, seedOf(3, 0, 4, 0), 1, 0, 1, 2);
        years(w, seedOf(3, 0, 4, 1), 1, 2, 0, 2);
        years(w, seedOf(3, 0, 4, 2), 1, 0, 1, 2);
        years(w, seedOf(3, 0, 4, 3), 1, 2, 0, 0);
        years(w, seedOf(3, 0, 4, 0, 3, 0, 4, 1, 3, 0, 4, 2), 3, 2, 2, 2);
        years(w, seedOf(3, 0, 4, 1, 3, 0, 4, 1, 3, 0, 4, 3), 3, 6, 0, 0);
        Edges.keeps("years", w, () -> w.years(5, 20, 0));
        // full: two are written, then undone, and don't count
        BulkWriter full = good("columns 1;" + "row 1;".repeat(28) + "insert 7;");
        years(full, seedOf(3, 0), 1, 0, 1, 28);
    }

    private static void yearsStir() {
        holds("A seed becomes itself times 1103515245 and 12345 (an int that wraps); a DRAW of n is its bits 16 to 30 MOD n then");
        // each run that isn't well counts one; a year of 2 draws three more
        BulkWriter w = good("columns 1;row 1;update a = 9999 + 1;");
        for (int seed : new int[] {0, 1, -1, 5, Edges.LOW, Edges.HIGH, 65536, -65536, 32768 * 65536 - 1}) {
            int chance = seed;
            int runs = 0;
            for (int year = 1; year <= 20; year++) {
                chance = stirred(chance);
                boolean lays = drawn(chance, 3) == 2;
                for (int i = lays ? 3 : 1; i > 0; i--) {
                    chance = stirred(chance);
                }
                runs += lays ? 0 : 1;
                due("seed " + seed + " in " + year, w.years(seed, year, 1), runs);
            }
        }
    }

    private static void yearsAreTwentyAtMost() {
        holds("YEARS by a seed: n times (0 to 20)");
        BulkWriter w = good("columns 1;row 1;insert 1 where count < 2;");
        years(w, 5, 0, 0, 0, 1);
        due("20", w.years(5, 20, 2), 2);
        Edges.illegal("21", () -> w.years(5, 21, 2));
        Edges.illegal("-1", () -> w.years(5, -1, 2));
    }

    // ---- acts and images

    private static void actsAreFortyAtMost() {
        holds("ACTS (at most 40 are kept, the latest ones)");
        BulkWriter w = good("columns 1;row 0;");
        for (int i = 1; i <= 39; i++) {
            w.lay(0, 0, i);
        }
        due("39", w.count(7), 39);
        w.lay(0, 0, 40);
        due("40", w.count(7), 40);
        w.lay(0, 0, 41);
        due("40 of 41", w.count(7), 40);
        w.lay(0, 0, 42);
        due("40 of 42", w.count(7), 40);
        for (int i = 39; i >= 0; i--) {
            due("undone", w.undo(), i);
            due("as it was", w.cell(0, 0), i + 2);
        }
        due("no more", w.undo(), -1);
        due("the first two stay", w.cell(0, 0), 2);
        // as often again, from a place in the middle of what is kept
        for (int i = 1; i <= 40; i++) {
            w.lay(0, 0, 100 + i);
        }
        for (int i = 39; i >= 0; i--) {
            due("undone", w.undo(), i);
        }
        due("as it was", w.cell(0, 0), 2);
    }

    private static void actsAreThreeKinds() {
        holds("a STATEMENT is RUN, that ends WELL; a number is LAID by hand into a COLUMN of a ROW; a ROW is taken away");
        BulkWriter w = good("columns 1;row 1;row 2;key a;update a = a + 5;update a = 9;delete where a = 77;");
        w.run(0);
        due("run", w.count(7), 1);
        w.run(1);
        due("not well", w.count(7), 1);
        w.run(2);
        due("nothing is written, but well", w.count(7), 2);
        w.lay(0, 0, 9);
        due("laid", w.count(7), 3);
        w.lay(0, 0, 7);
        due("can't be", w.count(7), 3);
        w.take(1);
        due("taken", w.count(7), 4);
        w.take(1);
        due("can't be", w.count(7), 4);
        Edges.row(w, 0, 9);
        Edges.row(w, 1, Edges.HIDDEN);
    }

    private static void actsAreUndoneTheLastFirst() {
        holds("They are UNDONE, the last one first");
        BulkWriter w = good("columns 2;row 1 10;row 2 20;row 3 30;insert a + 5, b where a = 1;delete where b > 10;");
        w.take(0);
        w.lay(1, 1, 21);
        w.run(1);
        due("none is left", w.count(1), 0);
        w.undo();
        Edges.row(w, 0, Edges.HIDDEN, Edges.HIDDEN);
        Edges.row(w, 1, 2, 21);
        Edges.row(w, 2, 3, 30);
        w.undo();
        Edges.row(w, 1, 2, 20);
        w.undo();
        Edges.row(w, 0, 1, 10);
        due("a new row", w.run(0), 1);
        Edges.row(w, 3, 6, 10);
        w.undo();
        Edges.row(w, 3, Edges.HIDDEN, Edges.HIDDEN);
    }

    private static void statusCountsWhatIsRefused() {
        holds("STATUS: how many calls were refused: 0 TEXTS with a FAULT, 1 ACTS, 2 what is SEEN");
        String text = "columns 1;row 1;key a;update a = 9999 + 1;update a = a;";
        BulkWriter w = good(text);
        Edges.keeps("a statement", w, () -> w.run(0), 11);
        Edges.keeps("a number", w, () -> w.lay(0, 0, 10000), 11);
        Edges.keeps("a row", w, () -> w.take(1), 11);
        Edges.keeps("what is seen", w, () -> w.see(30, 0, 1), 12);
        due("a text", Writing.tell(w, "?"), 1);
        due("a text", w.count(10), 1);
        due("acts", w.count(11), 3);
        due("seen", w.count(12), 1);
        due("a text without a fault", Writing.tell(w, "row 1 2 3;"), 0);
        due("a text", w.count(10), 1);
        BulkWriter none = good(text);
        Edges.keeps("nothing to undo", none, () -> none.undo());
        Edges.keeps("no image", none, () -> none.restore() ? 1 : 0);
        Edges.keeps("no such statement", none, () -> none.run(2));
        Edges.keeps("no such place", none, () -> none.take(30));
        Edges.keeps("no such place", none, () -> none.lay(30, 0, 10000));
        Edges.keeps("no such tape", none, () -> none.table(1));
    }

    private static void imageKeepsFourThings() {
        holds("AN IMAGE keeps ROWS, ACTS that are kept, what is SEEN, STATUS");
        BulkWriter w = good("columns 1;row 1;row 2;update a = a + 1;");
        w.lay(0, 0, 5);
        w.take(5);
        w.see(0, 0, 6);
        w.see(0, 0, 10000);
        Writing.tell(w, "??");
        w.image();
        w.take(0);
        w.take(0);
        w.run(0);
        w.see(1, 0, 6);
        w.see(1, 0, 10000);
        Writing.tell(w, " ?");
        w.feed(0, 0, 0, 0, 0);
        due("restored", w.restore() ? 1 : 0, 1);
        int[] counts = {1, 2, 0, 0, 0, 1, 1, 1, 1, 20, 1, 1, 1};
        for (int i = 0; i < counts.length; i++) {
            due("count(" + i + ")", w.count(i), counts[i]);
        }
        Edges.row(w, 0, 5);
        due("what is seen", w.fits(), 1);
        due("the fault is none of it", w.fault(), 1);
        due("the act", w.undo(), 0);
        Edges.row(w, 0, 1);
    }
}
