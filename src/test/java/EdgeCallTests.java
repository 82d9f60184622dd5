/** Boundaries that the promises name: the last input that is taken, the first that isn't, what a refused call leaves. */
public final class EdgeCallTests {
    private static final int NONE = Edges.NONE;
    private static final int HIDDEN = Edges.HIDDEN;
    private static final int LOW = Edges.LOW;
    private static final int HIGH = Edges.HIGH;
    private static final int BLANKS = 0x20202020;

    public static void main(String[] args) throws ReflectiveOperationException, java.io.IOException {
        Edges.runAll(EdgeCallTests.class);
        Edges.allPromisesAreHeld();
        Writing.end("EdgeCallTests");
    }

    private static void holds(int promise, String sentence) {
        Edges.holds("Promise " + promise, sentence);
    }

    private static BulkWriter good(String text) {
        return Edges.good(text);
    }

    private static void due(String what, long got, long want) {
        Edges.due(what, got, want);
    }

    /** A call of a writer. */
    private interface Asked {
        long of(BulkWriter writer);
    }

    /** The call throws NoSuchElementException and leaves all as it was, on an object of its own. */
    private static void missing(String what, Asked call) {
        BulkWriter w = busy();
        Edges.missing(what, () -> call.of(w));
        Edges.keeps(what, w, () -> call.of(w));
        stillBusy(w);
    }

    /** The call throws IllegalArgumentException and leaves all as it was. */
    private static void illegal(String what, BulkWriter w, Asked call) {
        Edges.illegal(what, () -> call.of(w));
        Edges.keeps(what, w, () -> call.of(w));
    }

    /** The call is refused, counted there, and leaves all else as it was, on an object of its own. */
    private static void refused(String what, long want, int status, Asked call) {
        BulkWriter w = busy();
        due(what, call.of(w), want);
        due(what + " is counted", w.count(status), 1);
        Edges.keeps(what, w, () -> call.of(w), status);
        stillBusy(w);
    }

    /** Two columns, three rows, a key, two indexes more, five statements, acts and an image and something seen. */
    private static BulkWriter busy() {
        BulkWriter w = good("columns 2;row 1 10;row 2 20;row 3 30;key a;index b;index b a;other 1 5;update b = b + 1;delete where a = 2;"
                + "insert a + 5, b;merge a a set b = other b;update a = 1;");
        w.lay(2, 1, 31);
        w.run(0);
        w.see(0, 0, 1);
        w.image();
        return w;
    }

    /** Its acts and its image are as they were; the acts are undone then, the image is brought back. */
    private static void stillBusy(BulkWriter w) {
        due("the act that is left", w.undo(), 1);
        Edges.row(w, 0, 1, 10);
        Edges.row(w, 2, 3, 31);
        due("no act is left", w.undo(), 0);
        Edges.row(w, 2, 3, 30);
        due("there was none ahead of it", w.undo(), NONE);
        due("the image", w.restore() ? 1 : 0, 1);
        Edges.row(w, 0, 1, 11);
        Edges.row(w, 1, 2, 21);
        Edges.row(w, 2, 3, 32);
        due("its acts", w.count(7), 2);
        due("what it has seen", w.fits(), 31);
    }

    private static int blank(BulkWriter w) {
        return w.feed(BLANKS, BLANKS, BLANKS, BLANKS, BLANKS);
    }

    // ---- constants and a new object

    private static void noneIsMinusOne() {
        Edges.holds("Terms", "`NONE = -1`: There is none.");
        due("NONE", BulkWriter.NONE, -1);
    }

    private static void hiddenIsNoNumberOfARow() {
        Edges.holds("Terms", "`HIDDEN = -100000`: No ROW is there.");
        due("HIDDEN", BulkWriter.HIDDEN, -100000);
    }

    private static void objectServes512Calls() {
        Edges.holds("What it is", "An object is used for at most 512 calls after it has been made");
        BulkWriter w = new BulkWriter();
        int calls = 0;
        for (String part : new String[] {"columns 1;row 0;inde", "x a;update a = a + 1", " where a < 300;      "}) {
            byte[] bytes = part.getBytes(java.nio.charset.StandardCharsets.ISO_8859_1);
            w.feed(Writing.packed(bytes, 0), Writing.packed(bytes, 4), Writing.packed(bytes, 8), Writing.packed(bytes, 12),
                    Writing.packed(bytes, 16));
            calls++;
        }
        due("table", w.table(60), 0);
        calls++;
        for (; calls < 509; calls++) {
            due("call " + calls, w.goes(0, 1, 0, 1), 4);
        }
        due("call 510", w.years(0, 20, 2), 1);
        due("call 511", w.run(0), 1);
        due("call 512", w.cell(0, 0), 1);
    }

    private static void keysMayClashOnTheWay() {
        Edges.holds("What it is", "keys may clash while it is written, and not at its end");
        BulkWriter w = good("columns 1;row 1;row 2;row 3;key a;update a = a + 1;update a = 4 - a;update a = 2 where a = 1;");
        due("2 2 3 is on the way", w.run(0), 3);
        due("back", w.undo(), 0);
        due("3 2 3 is on the way", w.run(1), 3);
        due("back", w.undo(), 0);
        due("2 2 3 is the end", w.run(2), -6);
        Edges.row(w, 0, 1);
    }

    private static void noRowIsChangedByTwo() {
        Edges.holds("What it is", "merges of other rows, in which no row may be changed by two");
        BulkWriter w = good("columns 2;row 1 0;row 2 0;other 1 5;other 2 6;other 1 7;merge a a set b = other b;merge a a delete;"
                + "merge a b set b = other b;");
        due("two", w.run(0), -2);
        due("two", w.run(1), -2);
        Edges.row(w, 0, 1, 0);
        due("none is", w.run(2), 0);
    }

    private static void whatCannotBeIsUndone() {
        Edges.holds("What it is", "what can't be is undone to the last number");
        StringBuilder text = new StringBuilder("columns 2;");
        for (int i = 0; i < 28; i++) {
            text.append("row ").append(i).append(" 0;");
        }
        BulkWriter w = good(text + "key a;insert a + 100, 1;update a = a - a, b = 9;update b = b + 9999 + a;");
        int[] ends = {3, 5, 2};
        for (int s = 0; s < ends.length; s++) {
            due("it can't be", w.run(s), -1 - ends[s]);
            for (int place = 0; place < 28; place++) {
                Edges.row(w, place, place, 0);
            }
            Edges.row(w, 28, HIDDEN, HIDDEN);
            due("rows", w.count(1), 28);
        }
    }

    private static void newObjectHasAnEmptyText() {
        holds(1, "A TABLE of an empty TEXT");
        BulkWriter told = new BulkWriter();
        due("an empty text", told.table(0), 0);
        for (BulkWriter w : new BulkWriter[] {new BulkWriter(), told}) {
            int[] counts = {3, 0, 0, 0, 0, 0, 1, 0, 0, 0, 0, 0, 0};
            for (int i = 0; i < counts.length; i++) {
                due("count(" + i + ")", w.count(i), counts[i]);
            }
            due("no fault", w.fault(), NONE);
            due("no row", w.cell(0, 0), HIDDEN);
            due("no row", w.cell(29, 2), HIDDEN);
            Edges.missing("no column", () -> w.cell(0, 3));
            Edges.missing("no row along", () -> w.along(0, 0));
            Edges.missing("no path", () -> w.along(1, 0));
            Edges.missing("no statement", () -> w.right(0, 0));
            Edges.missing("no statement", () -> w.plan(0, 0, 0));
            Edges.missing("no statement", () -> w.goes(0, 0, 0, 0));
            Edges.missing("no statement", () -> w.wrongPaths(0));
            Edges.missing("no statement", () -> w.cheapest(0, 0));
            Edges.missing("no statement", () -> w.clashes(0));
            Edges.missing("no statement", () -> w.order(0, NONE));
            Edges.missing("no statement", () -> w.run(0));
            due("no row to lay into", w.lay(29, 2, 1), HIDDEN);
            due("no row to take", w.take(29), NONE);
            due("two are refused", w.count(11), 2);
            due("no act", w.undo(), NONE);
            due("nothing fits", w.fits(), 0);
            due("nothing to look at", w.look(0), NONE);
            due("nothing to look at", w.look(1), 0);
            due("nothing in years", w.years(1, 20, 0), 0);
            due("nothing in years", w.years(1, 20, 1), 0);
            due("nothing in years", w.years(1, 20, 2), 0);
            due("no image", w.restore() ? 1 : 0, 0);
            due("it can see", w.see(29, 2, HIDDEN), 1);
        }
    }

    // ---- the tape

    private static void feedPutsTheHighestByteFirst() {
        holds(2, "Twenty bytes come behind the tape, of each number the highest first: how many it has");
        BulkWriter w = new BulkWriter();
        // "row " "-1 2" " 3; " "row " "4 5 ", then "6;" and bytes of 255, which are none
        due("20", w.feed(0x726F7720, 0x2D312032, 0x20333B20, 0x726F7720, 0x34203520), 20);
        due("40", w.feed(0x363BFFFF, -1, -1, -1, -1), 40);
        due("a byte of 255", w.table(23), 1);
        due("is where it is", w.fault(), 22);
        w.feed(0x726F7720, 0x2D312032, 0x20333B20, 0x726F7720, 0x34203520);
        w.feed(0x363BFFFF, LOW, HIGH, 0, -1);
        due("ahead of it", w.table(22), 0);
        Edges.row(w, 0, -1, 2, 3);
        Edges.row(w, 1, 4, 5, 6);
    }

    private static void feedTakes900() {
        holds(2, "NONE, and none come, if it would have more than 900");
        BulkWriter w = new BulkWriter();
        for (int i = 1; i <= 44; i++) {
            due("feed", blank(w), 20 * i);
        }
        due("up to 900", blank(w), 900);
        Edges.keeps("beyond", w, () -> w.feed(0, 0, 0, 0, 0));
        due("beyond", w.feed(0, 0, 0, 0, 0), NONE);
        due("none came", w.count(9), 900);
        due("none came", w.table(900), 0);
        due("it begins anew", blank(w), 20);
    }

    private static void tableTakesTheFirstBytes() {
        holds(3, "The tape's first n bytes (it is empty then) are a TEXT, all anew");
        BulkWriter w = busy();
        blank(w);
        w.feed(-1, -1, -1, -1, -1);
        due("20 of 40", w.table(20), 0);
        due("it is empty", w.count(9), 0);
        int[] counts = {3, 0, 0, 0, 0, 0, 1, 0, 0, 0, 0, 0, 0};
        for (int i = 0; i < counts.length; i++) {
            due("all anew, count(" + i + ")", w.count(i), counts[i]);
        }
        due("none is left", w.cell(0, 0), HIDDEN);
        w.feed(-1, -1, -1, -1, -1);
        due("none of it", w.table(0), 0);
        due("it is empty", w.count(9), 0);
        blank(w);
        blank(w);
        due("all of it", w.table(40), 0);
    }

    private static void tableLeavesNothingOfEarlierTexts() {
        holds(3, "are a TEXT, all anew");
        BulkWriter w = new BulkWriter();
        String wide = "columns 4;" + "row 9 9 9 9;".repeat(9) + "other 1 1 1 1;".repeat(10) + "index a;"
                + "merge b b delete insert 1,2,3,4;".repeat(7) + "delete where a=1and b=2;";
        String narrow = "columns 1;row 7;update a=8where a=7;delete;merge a a keep;";
        String many = "row 1 1 1;key a;update a=1" + "+1".repeat(200) + " where a=1" + "and a=1".repeat(30) + ";";
        // three texts, so that each comes where any of them was ahead of it
        for (int i = 0; i < 4; i++) {
            due("a wide one", Writing.tell(w, wide), 0);
            due("eight", w.count(5), 8);
            due("a narrow one", Writing.tell(w, narrow), 0);
            int[] few = {1, 1, 0, 0, 0, 3, 1};
            for (int what = 0; what < few.length; what++) {
                due("behind a wide one, count(" + what + ")", w.count(what), few[what]);
            }
            due("a test", w.right(0, 0), 1);
            due("no test", w.right(1, 0), 1);
            due("no new row", w.right(2, 0), 0);
            due("no reason", w.plan(0, 0, 0), 0);
            due("no reason", w.plan(2, 0, 0), 0);
            due("many atoms", Writing.tell(w, many), 0);
            due("all of them", w.run(0), 1);
            due("all of them", w.cell(0, 0), 201);
            due("the last test, too", w.run(0), 0);
        }
    }

    private static void tableWithAFaultLeavesAll() {
        holds(3, "or the FAULT (all stays, but STATUS)");
        for (String text : new String[] {"?", "columns 4;row 1 2 3 4;key d;delete;update a = 9;x", "columns 1;row 1;row 1;key a;",
                "columns 9", "index d;", "row 1 2 3;columns 1;"}) {
            BulkWriter w = busy();
            due("no fault", w.fault(), NONE);
            int[] counts = new int[13];
            for (int i = 0; i < 13; i++) {
                counts[i] = w.count(i);
            }
            due(text, Writing.tell(w, text) > 0 ? 1 : 0, 1);
            counts[10]++;
            for (int i = 0; i < 13; i++) {
                due(text + " count(" + i + ")", w.count(i), counts[i]);
            }
            Edges.row(w, 0, 1, 11);
            Edges.row(w, 1, 2, 21);
            Edges.row(w, 2, 3, 32);
            Edges.along(w, 2, 2, 1, 0);
            Edges.along(w, 5, 0, 1, 2);
            due("what is seen", w.fits(), 1 + 2 + 4 + 8 + 16);
            due("a statement", w.run(3), 1);
            Edges.row(w, 0, 1, 5);
            due("the acts", w.undo(), 2);
            due("the acts", w.undo(), 1);
            due("the acts", w.undo(), 0);
            Edges.row(w, 2, 3, 30);
            due("the image", w.restore() ? 1 : 0, 1);
            Edges.row(w, 2, 3, 32);
        }
    }

    private static void tableForgetsActsSeenImage() {
        holds(3, "ACTS, what is SEEN, the image are gone");
        BulkWriter w = busy();
        due("an empty text", w.table(0), 0);
        due("acts", w.count(7), 0);
        due("acts", w.undo(), NONE);
        due("seen", w.count(8), 0);
        due("image", w.restore() ? 1 : 0, 0);
        // nor does one of an earlier table come back
        due("a table", Writing.tell(w, "row 1 2 3;"), 0);
        due("image", w.restore() ? 1 : 0, 0);
        due("acts", w.undo(), NONE);
        due("a row", w.count(1), 1);
    }

    private static void tableRefusesMoreThanTheTape() {
        holds(3, "IllegalArgumentException: the tape has not so many, n below 0 (nothing changes)");
        BulkWriter w = busy();
        illegal("1 of none", w, it -> it.table(1));
        illegal("-1", w, it -> it.table(-1));
        for (int n : new int[] {21, 40, 900, 901, -1, -20, LOW, HIGH}) {
            BulkWriter fed = busy();
            blank(fed);
            illegal(n + " of 20", fed, it -> it.table(n));
            stillBusy(fed);
            due("the tape stays", fed.count(9), 20);
            due("20 of 20", fed.table(20), 0);
            fed.feed(-1, -1, -1, -1, -1);
            due("a fault", fed.table(20), 1);
            illegal("1 of none", fed, it -> it.table(1));
            due("the fault stays", fed.fault(), 0);
        }
    }

    private static void faultIsOfTheLatestTable() {
        holds(4, "The place of the latest table()'s FAULT; NONE without");
        BulkWriter w = new BulkWriter();
        due("none yet", w.fault(), NONE);
        due("the first byte", Writing.tell(w, "?"), 1);
        due("the first byte", w.fault(), 0);
        due("the last of 900", Writing.tell(w, " ".repeat(899) + "?"), 1);
        due("the last of 900", w.fault(), 899);
        due("behind 900", Writing.tell(w, " ".repeat(896) + "row "), 1);
        due("behind 900", w.fault(), 900);
        Edges.illegal("no text", () -> w.table(21));
        due("it stays", w.fault(), 900);
        due("no fault", w.table(0), 0);
        due("no fault", w.fault(), NONE);
    }

    // ---- what is asked

    private static void countKnowsThirteen() {
        holds(5, "NoSuchElementException: another what");
        BulkWriter w = busy();
        due("the first", w.count(0), 2);
        due("the last", w.count(12), 0);
        for (int what : new int[] {-1, 13, LOW, HIGH}) {
            missing("count(" + what + ")", it -> it.count(what));
        }
    }

    private static void countTells() {
        holds(5, "0 COLUMNS, 1 ROWS, 2 INDEXES, 3 KEYS (bits of INDEXES), 4 OTHERS, 5 STATEMENTS, 6 PATHS, 7 ACTS that are kept, 8"
                + " SEEN, 9 bytes of the tape, 10 to 12 STATUS 0 to 2");
        BulkWriter w = good("columns 4;row 1 1 1 1;row 2 2 2 2;index a;key b;key c;" + "other 1 1 1 1;".repeat(10)
                + "delete;".repeat(7) + "delete where a = 7;");
        w.lay(0, 0, 5);
        w.run(7);
        w.take(0);
        w.take(0);
        w.see(0, 0, 1);
        w.see(0, 4, 1);
        w.see(0, 4, 1);
        w.see(0, 4, 1);
        Writing.tell(w, "?");
        Writing.tell(w, "?");
        blank(w);
        int[] counts = {4, 1, 3, 6, 10, 8, 7, 3, 1, 20, 2, 1, 3};
        for (int i = 0; i < counts.length; i++) {
            due("count(" + i + ")", w.count(i), counts[i]);
        }
        due("three keys", good("key a;key b;key c;").count(3), 7);
    }

    private static void cellIsHiddenWithoutARow() {
        holds(6, "A number of the ROW at a PLACE; HIDDEN: there is none");
        BulkWriter w = good("columns 1;row 9999;row -9999;row 0;");
        due("cell", w.cell(0, 0), 9999);
        due("cell", w.cell(1, 0), -9999);
        due("0 is a number", w.cell(2, 0), 0);
        due("none", w.cell(3, 0), HIDDEN);
        due("none", w.cell(29, 0), HIDDEN);
        w.take(2);
        due("taken", w.cell(2, 0), HIDDEN);
    }

    private static void cellKnowsPlacesAndColumns() {
        holds(6, "NoSuchElementException: no such PLACE, COLUMN (0 on, as everywhere)");
        BulkWriter w = busy();
        due("the first", w.cell(0, 0), 1);
        due("the last", w.cell(29, 1), HIDDEN);
        for (int place : new int[] {-1, 30, 31, 32, LOW, HIGH}) {
            missing("cell(" + place + ", 0)", it -> it.cell(place, 0));
        }
        for (int column : new int[] {-1, 2, 3, 4, LOW, HIGH}) {
            missing("cell(0, " + column + ")", it -> it.cell(0, column));
        }
    }

    private static void alongIsWithoutRange() {
        holds(7, "The PLACE of the i-th ROW of a PATH (0 on), as it is, without RANGE");
        BulkWriter w = good("columns 1;row 3;row 1;row 2;index a;delete where a = 1;");
        Edges.along(w, 0, 0, 1, 2);
        Edges.along(w, 1, 1, 2, 0);
        Edges.along(w, 2, 0, 2, 1);
        w.lay(1, 0, 9);
        Edges.along(w, 1, 2, 0, 1);
        w.take(0);
        Edges.along(w, 0, 1, 2);
        Edges.along(w, 2, 1, 2);
        BulkWriter all = good("columns 1;" + "row 5;".repeat(30) + "index a;");
        due("the thirtieth", all.along(1, 29), 29);
        due("the thirtieth down", all.along(2, 29), 0);
        Edges.missing("no thirty-first", () -> all.along(1, 30));
    }

    private static void alongKnowsPathsAndRows() {
        holds(7, "NoSuchElementException: no such PATH (as everywhere), there is none");
        BulkWriter w = busy();
        due("the last", w.along(6, 2), 0);
        for (int path : new int[] {-1, 7, 8, LOW, HIGH}) {
            missing("along(" + path + ", 0)", it -> it.along(path, 0));
        }
        for (int i : new int[] {-1, 3, LOW, HIGH}) {
            missing("along(0, " + i + ")", it -> it.along(0, i));
        }
    }

    private static void rightTellsWritesAndTheEnd() {
        holds(8, "Of the RIGHT run of a STATEMENT: 0 how many it WRITES, 1 its END");
        BulkWriter w = good("columns 1;row 1;row 2;key a;update a = 2 where a = 1;update a = a;");
        Edges.right(w, 0, 1, 5);
        Edges.right(w, 1, 2, 0);
        // it is asked by the rows as they are, and changes none
        w.lay(1, 0, 3);
        Edges.right(w, 0, 1, 0);
        Edges.keeps("right", w, () -> w.right(0, 1));
    }

    private static void rightTellsByItsEnd() {
        holds(8, "2 and 3 what is told by it (by 1: the ROW, 100 by the first of OTHERS and the second; by 2: the ROW, the COLUMN; by"
                + " 5: the KEY, 100 by the less PLACE and the other one; else NONE)");
        BulkWriter w = good("columns 2;row 1 1;row 2 2;row 3 3;other 0 0;other 3 0;other 3 0;index a;key b;merge a a delete;"
                + "update b = 5000 * b where b > 1;update b = 7 where b > 1;update b = 7 where b > 2;delete where b > 3;");
        Edges.right(w, 0, 0, 1, 2, 102);
        Edges.right(w, 1, 0, 2, 1, 1);
        Edges.right(w, 2, 2, 5, 1, 102);
        Edges.right(w, 3, 1, 0, NONE, NONE);
        Edges.right(w, 4, 0, 0, NONE, NONE);
        BulkWriter full = good("columns 1;" + "row 1;".repeat(29) + "insert 1;");
        Edges.right(full, 0, 1, 3, NONE, NONE);
    }

    private static void rightKnowsStatements() {
        holds(8, "NoSuchElementException: no such STATEMENT (as everywhere), another what");
        BulkWriter w = busy();
        due("the last", w.right(4, 3), 1);
        for (int statement : new int[] {-1, 5, 6, 7, 8, LOW, HIGH}) {
            missing("right(" + statement + ", 0)", it -> it.right(statement, 0));
        }
        for (int what : new int[] {-1, 4, LOW, HIGH}) {
            missing("right(0, " + what + ")", it -> it.right(0, what));
        }
    }

    private static void planKnowsFour() {
        holds(9, "0 REASONS (bits), 1 the stage that is PLANNED, 2 how many numbers are HELD by it, 3 how many ROWS are READ."
                + " NoSuchElementException: another what");
        BulkWriter w = busy();
        Edges.plan(w, 0, 3, 1, 1, 3, 3);
        Edges.plan(w, 1, 6, 0, 0, 0, 3);
        Edges.plan(w, 2, 0, 1, 1, 3, 3);
        for (int what : new int[] {-1, 4, LOW, HIGH}) {
            missing("plan(0, 0, " + what + ")", it -> it.plan(0, 0, what));
        }
        for (int path : new int[] {-1, 7, LOW, HIGH}) {
            missing("plan(0, " + path + ", 0)", it -> it.plan(0, path, 0));
        }
        for (int statement : new int[] {-1, 5, LOW, HIGH}) {
            missing("plan(" + statement + ", 0, 0)", it -> it.plan(statement, 0, 0));
        }
    }

    private static void goesTellsNoClash() {
        holds(10, "0 OTHERWISE, 1 its END (5 aside), 2 how many it WRITES, 3 TWICE");
        BulkWriter w = busy();
        due("the right one ends so", w.right(4, 1), 5);
        for (int stage = 0; stage < 4; stage++) {
            Edges.goes(w, 4, 0, stage, 0, 0, 3, 0);
        }
        // up: places 1 and 2 become 1 and are met no more; up from (1, 0) the others follow
        Edges.goes(w, 4, 1, 0, 0, 0, 3, 0);
        // but one that never ends is told: all of them go up till 200 are written
        Edges.goes(w, 0, 3, 0, 3, 4, 200, 3);
    }

    private static void goesKnowsStagesAndWhats() {
        holds(10, "NoSuchElementException: stage, another what");
        BulkWriter w = busy();
        due("the last", w.goes(4, 6, 3, 3), 0);
        for (int stage : new int[] {-1, 4, LOW, HIGH}) {
            missing("stage " + stage, it -> it.goes(0, 0, stage, 0));
        }
        for (int what : new int[] {-1, 4, LOW, HIGH}) {
            missing("what " + what, it -> it.goes(0, 0, 0, what));
        }
    }

    private static void goesKnowsStatementsAndPaths() {
        holds(10, "A run along a PATH with a SPOOL at a stage");
        BulkWriter w = busy();
        for (int statement : new int[] {-1, 5, LOW, HIGH}) {
            missing("statement " + statement, it -> it.goes(statement, 0, 0, 0));
        }
        for (int path : new int[] {-1, 7, LOW, HIGH}) {
            missing("path " + path, it -> it.goes(0, path, 0, 0));
        }
        Edges.keeps("a run that is asked", w, () -> w.goes(0, 3, 0, 2));
    }

    private static void wrongPathsKnowsStatements() {
        holds(11, "WRONG PATHS");
        BulkWriter w = busy();
        // b up by the indexes of b: paths 3 and 5
        due("the first", w.wrongPaths(0), 8 + 32);
        due("the last", w.wrongPaths(4), 0);
        for (int statement : new int[] {-1, 5, LOW, HIGH}) {
            missing("statement " + statement, it -> it.wrongPaths(statement));
        }
        Edges.keeps("what is asked", w, () -> w.wrongPaths(0));
    }

    private static void cheapestKnowsTwo() {
        holds(12, "which PATH (what 0), its COST (1). NoSuchElementException: another what");
        BulkWriter w = busy();
        // of deleting where a is 2: one row is read by the key
        due("which", w.cheapest(1, 0), 1);
        due("cost", w.cheapest(1, 1), 1);
        for (int what : new int[] {-1, 2, LOW, HIGH}) {
            missing("what " + what, it -> it.cheapest(0, what));
        }
        for (int statement : new int[] {-1, 5, LOW, HIGH}) {
            missing("statement " + statement, it -> it.cheapest(statement, 0));
        }
    }

    private static void clashesKnowsStatements() {
        holds(13, "ON THE WAY");
        BulkWriter w = busy();
        // 1 2 3, 1 1 3, 1 1 1
        due("but the last", w.clashes(4), 1);
        due("none", w.clashes(0), 0);
        for (int statement : new int[] {-1, 5, LOW, HIGH}) {
            missing("statement " + statement, it -> it.clashes(statement));
        }
        Edges.keeps("what is asked", w, () -> w.clashes(4));
    }

    private static void orderTellsHowMany() {
        holds(14, "how many (i NONE; NONE: there is none), the i-th of it. NoSuchElementException: there is none");
        BulkWriter w = busy();
        due("how many", w.order(0, NONE), 3);
        due("the first", w.order(0, 0), 0);
        due("the last", w.order(0, 2), 2);
        for (int i : new int[] {-2, 3, LOW, HIGH}) {
            missing("order(0, " + i + ")", it -> it.order(0, i));
        }
        due("there is none", w.order(4, NONE), NONE);
        missing("there is none", it -> it.order(4, 0));
        w.take(1);
        due("none is written", w.order(1, NONE), 0);
        Edges.missing("none is written", () -> w.order(1, 0));
        for (int statement : new int[] {-1, 5, LOW, HIGH}) {
            missing("statement " + statement, it -> it.order(statement, NONE));
        }
    }

    // ---- acts

    private static void runTellsItsEnd() {
        holds(15, "A STATEMENT is RUN: how many it WRITES. NONE less its END (STATUS 1), if that isn't 0");
        BulkWriter w = good("columns 1;" + "row 5;".repeat(20) + "row 6;other 6;other 6;merge a a delete;update a = a + 9994;insert a;"
                + "update a = a + 9993;delete where a = 7;");
        Edges.keeps("double", w, () -> w.run(0), 11);
        due("double", w.run(0), -2);
        Edges.keeps("over", w, () -> w.run(1), 11);
        due("over", w.run(1), -3);
        Edges.keeps("full", w, () -> w.run(2), 11);
        due("full", w.run(2), -4);
        due("refused", w.count(11), 6);
        due("well", w.run(3), 21);
        due("9999 is still one", w.cell(20, 0), 9999);
        due("nothing is written", w.run(4), 0);
        due("two acts", w.count(7), 2);
        due("refused", w.count(11), 6);
        refused("clash", -6, 11, it -> it.run(4));
    }

    private static void runKnowsStatements() {
        holds(15, "A STATEMENT is RUN");
        BulkWriter w = busy();
        for (int statement : new int[] {-1, 5, LOW, HIGH}) {
            missing("statement " + statement, it -> it.run(statement));
        }
        due("the first", w.run(0), 3);
        due("the last but one", w.run(3), 1);
    }

    private static void layIsRefused() {
        holds(16, "HIDDEN (STATUS 1): there is no ROW, not -9999 to 9999, a KEY would have two alike");
        refused("no row", HIDDEN, 11, it -> it.lay(3, 0, 9));
        refused("no row", HIDDEN, 11, it -> it.lay(29, 1, 9));
        for (int number : new int[] {10000, -10000, HIDDEN, LOW, HIGH}) {
            refused("lay " + number, HIDDEN, 11, it -> it.lay(0, 0, number));
            refused("lay " + number, HIDDEN, 11, it -> it.lay(2, 1, number));
        }
        refused("alike", HIDDEN, 11, it -> it.lay(0, 0, 2));
        refused("alike", HIDDEN, 11, it -> it.lay(2, 0, 1));
        BulkWriter w = busy();
        due("refused", w.lay(0, 0, 2), HIDDEN);
        due("it is none of the acts", w.undo(), 1);
    }

    private static void layTellsWhatWasThere() {
        holds(16, "A number is LAID: what was there");
        BulkWriter w = busy();
        due("9999", w.lay(0, 0, 9999), 1);
        due("-9999", w.lay(0, 0, -9999), 9999);
        due("itself", w.lay(0, 0, -9999), -9999);
        due("acts", w.count(7), 5);
        due("alike where no key is", w.lay(0, 1, 21), 11);
        due("the last row", w.lay(2, 1, 0), 32);
        due("undone", w.undo(), 6);
        Edges.row(w, 2, 3, 32);
        due("refused", w.count(11), 0);
        // a key of two columns, and another key behind it
        BulkWriter key = good("columns 3;row 1 1 1;row 1 2 2;row 2 1 3;key a b;key c;");
        due("alike in both", key.lay(1, 1, 1), HIDDEN);
        due("alike in the other key", key.lay(1, 2, 3), HIDDEN);
        due("alike in one", key.lay(1, 1, 9), 2);
    }

    private static void layKnowsPlacesAndColumns() {
        holds(16, "NoSuchElementException: no such PLACE, COLUMN");
        BulkWriter w = busy();
        for (int place : new int[] {-1, 30, 32, LOW, HIGH}) {
            missing("place " + place, it -> it.lay(place, 0, 5));
            missing("place " + place, it -> it.lay(place, 0, 10000));
        }
        for (int column : new int[] {-1, 2, 4, LOW, HIGH}) {
            missing("column " + column, it -> it.lay(0, column, 5));
            missing("column " + column, it -> it.lay(3, column, 10000));
        }
    }

    private static void takeTellsHowManyThereAre() {
        holds(17, "A ROW is taken away: how many there are. NONE (STATUS 1): there is none");
        BulkWriter w = good("columns 1;" + "row 1;".repeat(30));
        due("the last", w.take(29), 29);
        due("the first", w.take(0), 28);
        Edges.keeps("there is none", w, () -> w.take(0), 11);
        due("there is none", w.take(29), NONE);
        due("refused", w.count(11), 2);
        due("two acts", w.count(7), 2);
        refused("there is none", NONE, 11, it -> it.take(3));
        refused("there is none", NONE, 11, it -> it.take(29));
        BulkWriter one = good("columns 1;row 1;");
        due("the only one", one.take(0), 0);
        due("none is left", one.take(0), NONE);
    }

    private static void takeKnowsPlaces() {
        holds(17, "NoSuchElementException: no such PLACE");
        BulkWriter w = busy();
        for (int place : new int[] {-1, 30, 32, LOW, HIGH}) {
            missing("place " + place, it -> it.take(place));
        }
    }

    private static void undoTellsHowManyAreLeft() {
        holds(18, "The last ACT is UNDONE: how many are left. NONE: there is none");
        BulkWriter w = busy();
        due("one is left", w.undo(), 1);
        Edges.row(w, 2, 3, 31);
        due("none is left", w.undo(), 0);
        Edges.row(w, 2, 3, 30);
        Edges.keeps("there is none", w, () -> w.undo());
        due("there is none", w.undo(), NONE);
        due("nothing is refused", w.count(11), 0);
        due("an act again", w.lay(0, 1, 5), 10);
        due("and undone", w.undo(), 0);
        BulkWriter none = new BulkWriter();
        due("there is none", none.undo(), NONE);
    }

    // ---- what is seen

    private static void seeTellsHowMuch() {
        holds(19, "SEEN: how much is");
        BulkWriter w = good("columns 2;row 1 2;");
        due("the first", w.see(0, 0, 9999), 1);
        due("the last place and column", w.see(29, 1, -9999), 2);
        due("hidden", w.see(29, 1, HIDDEN), 3);
        due("the same once more", w.see(29, 1, HIDDEN), 4);
        due("a row that there isn't", w.see(5, 0, 7), 5);
        due("nothing is refused", w.count(12), 0);
    }

    private static void seeIsRefused() {
        holds(19, "NONE (STATUS 2): there are 8, no such PLACE, COLUMN, a number that is not HIDDEN, nor -9999 to 9999");
        for (int place : new int[] {-1, 30, 32, LOW, HIGH}) {
            refused("place " + place, NONE, 12, it -> it.see(place, 0, 1));
        }
        for (int column : new int[] {-1, 2, 4, LOW, HIGH}) {
            refused("column " + column, NONE, 12, it -> it.see(0, column, 1));
        }
        for (int number : new int[] {10000, -10000, HIDDEN - 1, HIDDEN + 1, -HIDDEN, LOW, HIGH}) {
            refused("number " + number, NONE, 12, it -> it.see(0, 0, number));
        }
        BulkWriter w = busy();
        for (int i = 2; i <= 8; i++) {
            due("seen", w.see(0, 0, 1), i);
        }
        Edges.keeps("the ninth", w, () -> w.see(0, 0, 1), 12);
        due("the ninth", w.see(0, 0, 1), NONE);
        due("refused", w.count(12), 2);
    }

    private static void fitsIsBits() {
        holds(20, "FITS");
        BulkWriter w = good("columns 1;row 1;" + "update a = 1;".repeat(7) + "update a = 2;");
        due("all eight", w.fits(), 255);
        w.see(0, 0, 2);
        due("the eighth", w.fits(), 128);
        w.see(0, 0, 1);
        due("none", w.fits(), 0);
        Edges.keeps("what is asked", w, w::fits);
    }

    private static void lookKnowsTwo() {
        holds(21, "which (what 0; NONE), how many unlike (1; 0: none). NoSuchElementException: another what");
        BulkWriter w = busy();
        // a of place 0 is seen as it is, which fits all five; b of place 0 becomes 12, 5 or stays 11
        due("which", w.look(0), 1);
        due("how many", w.look(1), 3);
        for (int what : new int[] {-1, 2, LOW, HIGH}) {
            missing("what " + what, it -> it.look(what));
        }
        w.see(0, 0, 2);
        due("none", w.look(0), NONE);
        due("none", w.look(1), 0);
        Edges.missing("what 2, without any", () -> w.look(2));
    }

    private static void forgetForgetsAll() {
        holds(22, "All that is SEEN is forgotten");
        BulkWriter w = busy();
        for (int i = 2; i <= 8; i++) {
            w.see(0, 0, 2);
        }
        w.see(0, 0, 2);
        due("none fits", w.fits(), 0);
        w.forget();
        due("none is seen", w.count(8), 0);
        due("all fit", w.fits(), 31);
        due("what was refused stays", w.count(12), 1);
        due("acts stay", w.count(7), 2);
        due("the first again", w.see(0, 1, 12), 1);
        due("it alone counts", w.fits(), 1);
        w.forget();
        Edges.keeps("nothing to forget", w, () -> {
            w.forget();
            return 0;
        });
    }

    private static void yearsKnowsThree() {
        holds(23, "YEARS: WRITTEN (what 0), not WELL (1), ROWS (2). NoSuchElementException: another what");
        BulkWriter w = busy();
        due("none yet", w.years(1, 0, 0), 0);
        due("none yet", w.years(1, 0, 1), 0);
        due("rows", w.years(1, 0, 2), 3);
        for (int what : new int[] {-1, 3, LOW, HIGH}) {
            missing("what " + what, it -> it.years(1, 1, what));
        }
    }

    private static void yearsKnowsTwenty() {
        holds(23, "IllegalArgumentException (behind that): n");
        for (int n : new int[] {-1, 21, LOW, HIGH}) {
            BulkWriter w = busy();
            illegal("n " + n, w, it -> it.years(1, n, 0));
            stillBusy(w);
            missing("n " + n + ", and another what", it -> it.years(1, n, 3));
            missing("n " + n + ", and another what", it -> it.years(1, n, -1));
        }
        BulkWriter last = busy();
        Edges.keeps("twenty years", last, () -> last.years(1, 20, 0));
        stillBusy(last);
    }

    private static void imageTakesAnothersPlace() {
        holds(24, "AN IMAGE is kept, in place of another one");
        BulkWriter w = busy();
        w.lay(0, 1, 77);
        w.image();
        w.lay(0, 1, 78);
        due("restored", w.restore() ? 1 : 0, 1);
        Edges.row(w, 0, 1, 77);
        due("acts", w.count(7), 3);
        due("the act of the image", w.undo(), 2);
        Edges.row(w, 0, 1, 11);
        // so is what is seen
        w.forget();
        w.see(2, 1, 5);
        w.restore();
        due("what is seen", w.fits(), 31);
        w.undo();
        // forty acts behind the image leave its own alone
        for (int i = 0; i < 41; i++) {
            w.lay(0, 1, i);
        }
        w.restore();
        due("acts", w.count(7), 3);
        w.undo();
        w.undo();
        w.undo();
        Edges.row(w, 2, 3, 30);
        due("none is left", w.undo(), NONE);
    }

    private static void imageKeepsItsOwn() {
        holds(24, "AN IMAGE is kept");
        BulkWriter w = good("columns 2;row 1 1;row 2 2;update a = 5;update b = 6;");
        w.take(1);
        w.see(0, 0, 5);
        w.image();
        // other acts, another thing seen, in the same places of what is kept
        w.undo();
        w.lay(1, 1, 9);
        w.take(0);
        w.forget();
        w.see(1, 1, 6);
        due("seen behind it", w.fits(), 2);
        due("restored", w.restore() ? 1 : 0, 1);
        due("seen ahead of it", w.fits(), 1);
        due("one row", w.count(1), 1);
        due("its act", w.undo(), 0);
        Edges.row(w, 1, 2, 2);
        due("two rows", w.count(1), 2);
        // forty acts, all of one row
        w.restore();
        for (int i = 0; i < 40; i++) {
            w.lay(0, 1, i);
        }
        due("restored", w.restore() ? 1 : 0, 1);
        due("its act", w.undo(), 0);
        Edges.row(w, 0, 1, 1);
        Edges.row(w, 1, 2, 2);
    }

    private static void imageOfNothing() {
        holds(24, "AN IMAGE is kept");
        BulkWriter w = new BulkWriter();
        w.image();
        due("of an empty table", w.restore() ? 1 : 0, 1);
        due("it is empty", w.count(1), 0);
        BulkWriter full = good("columns 1;" + "row 1;".repeat(30));
        for (int i = 0; i < 45; i++) {
            full.lay(29, 0, i);
        }
        for (int i = 0; i < 8; i++) {
            full.see(29, 0, 44);
        }
        full.image();
        for (int i = 0; i < 3; i++) {
            full.take(i);
            full.undo();
            full.undo();
            full.forget();
            due("of a full one", full.restore() ? 1 : 0, 1);
            due("acts", full.count(7), 40);
            due("seen", full.count(8), 8);
            due("rows", full.count(1), 30);
            due("the last", full.cell(29, 0), 44);
        }
        for (int i = 39; i >= 0; i--) {
            due("undone", full.undo(), i);
            due("as it was", full.cell(29, 0), i + 4);
        }
    }

    private static void restoreAnswersWhetherThereIsOne() {
        holds(25, "It is as the IMAGE again: true. False: there is none");
        BulkWriter none = good("columns 1;row 1;");
        Edges.keeps("there is none", none, () -> none.restore() ? 1 : 0);
        due("there is none", none.restore() ? 1 : 0, 0);
        BulkWriter w = busy();
        w.take(0);
        w.take(0);
        w.see(0, 0, 7);
        due("there is one", w.restore() ? 1 : 0, 1);
        due("rows", w.count(1), 3);
        due("acts", w.count(7), 2);
        due("seen", w.count(8), 1);
        due("refused", w.count(11), 0);
        w.take(2);
        due("as often as it is asked", w.restore() ? 1 : 0, 1);
        due("rows", w.count(1), 3);
    }
}
