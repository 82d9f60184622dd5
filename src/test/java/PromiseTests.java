/** For each promise answers derived by hand from the document: ordinary calls, edges, wrong inputs. */
public final class PromiseTests {
    private static final int NONE = -1;
    private static final int HIDDEN = -100000;
    private static final int LOW = Integer.MIN_VALUE;
    private static final int HIGH = Integer.MAX_VALUE;

    public static void main(String[] args) {
        promise1();
        promise2();
        promise3();
        promise3Again();
        promise3Narrower();
        promise4();
        promise5();
        promise6();
        promise7();
        promise8();
        promise8Ends();
        promise9Reasons();
        promise9Merges();
        promise9Stages();
        promise9Range();
        promise10();
        promise10Stages();
        promise10Merges();
        promise11();
        promise12();
        promise13();
        promise14();
        promise15();
        promise16();
        promise17();
        promise18();
        promise19();
        promise20();
        promise21();
        promise22();
        promise23();
        promise24And25();
        values();
        Writing.end("PromiseTests");
    }

    private static void due(String what, long got, long want) {
        Writing.due(what, got, want);
    }

    private static void missing(String what, Writing.Call call) {
        Writing.dueMissing(what, call);
    }

    private static void illegal(String what, Writing.Call call) {
        Writing.dueIllegal(what, call);
    }

    private static void promise1() {
        BulkWriter w = new BulkWriter();
        int[] counts = {3, 0, 0, 0, 0, 0, 1, 0, 0, 0, 0, 0, 0};
        for (int i = 0; i < counts.length; i++) {
            due("1: count(" + i + ")", w.count(i), counts[i]);
        }
        due("1: fault", w.fault(), NONE);
        due("1: cell", w.cell(29, 2), HIDDEN);
        due("1: fits", w.fits(), 0);
        due("1: look(0)", w.look(0), NONE);
        due("1: look(1)", w.look(1), 0);
        due("1: undo", w.undo(), NONE);
        due("1: restore", w.restore() ? 1 : 0, 0);
        due("1: years", w.years(1, 20, 2), 0);
        due("1: NONE", BulkWriter.NONE, -1);
        due("1: HIDDEN", BulkWriter.HIDDEN, -100000);
    }

    private static void promise2() {
        BulkWriter w = new BulkWriter();
        // "row " "-1 2" " 3; " "row " "4 5 "
        due("2: feed", w.feed(0x726F7720, 0x2D312032, 0x20333B20, 0x726F7720, 0x34203520), 20);
        // "6;" and then all bits, which is no token
        due("2: feed", w.feed(0x363BFFFF, -1, -1, -1, -1), 40);
        due("2: bytes", w.count(9), 40);
        due("2: table", w.table(22), 0);
        Writing.row("2", w, 0, -1, 2, 3);
        Writing.row("2", w, 1, 4, 5, 6);
        for (int i = 1; i <= 45; i++) {
            due("2: feed " + i, w.feed(0x20202020, 0x20202020, 0x0A0A0A0A, 0x20202020, 0x20202020), 20 * i);
        }
        due("2: too much", w.feed(0, 0, 0, 0, 0), NONE);
        due("2: bytes", w.count(9), 900);
        due("2: nothing came", w.table(900), 0);
        due("2: bytes", w.count(9), 0);
        due("2: feed anew", w.feed(0, 0, 0, 0, 0), 20);
    }

    private static void promise3() {
        BulkWriter w = Writing.of("columns 2;row 1 2;row 3 4;update a = a + 1;");
        w.run(0);
        w.see(0, 0, 2);
        w.see(0, 5, 2);
        w.image();
        due("3: a fault", Writing.tell(w, "row 1;"), 1);
        due("3: rows stay", w.count(1), 2);
        due("3: columns stay", w.count(0), 2);
        due("3: acts stay", w.count(7), 1);
        due("3: seen stays", w.count(8), 1);
        due("3: status", w.count(10), 1);
        due("3: the tape is empty", w.count(9), 0);
        due("3: the image stays", w.restore() ? 1 : 0, 1);
        due("3: status of the image", w.count(10), 0);
        due("3: a statement stays", w.run(0), 2);
        w.feed(0x726F7720, 0x31203220, 0x333B2020, 0x20202020, 0x202020FF);
        illegal("3: more than the tape has", () -> w.table(21));
        illegal("3: below 0", () -> w.table(-1));
        illegal("3: far below 0", () -> w.table(LOW));
        illegal("3: far above", () -> w.table(HIGH));
        due("3: the tape stays", w.count(9), 20);
        due("3: nothing is refused", w.count(10), 0);
        due("3: acts stay", w.count(7), 2);
        due("3: the first bytes alone", w.table(19), 0);
        due("3: the tape is empty", w.count(9), 0);
        due("3: columns anew", w.count(0), 3);
        due("3: rows anew", w.count(1), 1);
        due("3: statements anew", w.count(5), 0);
        due("3: acts are gone", w.count(7), 0);
        due("3: seen is gone", w.count(8), 0);
        due("3: status stays", w.count(12), 1);
        due("3: the image is gone", w.restore() ? 1 : 0, 0);
        due("3: undo", w.undo(), NONE);
        due("3: an empty text", w.table(0), 0);
        due("3: no rows", w.count(1), 0);
    }

    /** Nothing of an earlier text is left in a later one. */
    private static void promise3Again() {
        BulkWriter w = new BulkWriter();
        String held = "delete where a=7" + "and a=7".repeat(100);
        for (int i = 0; i < 5; i++) {
            due("3: merges", Writing.tell(w, "columns 4;row 9 9 9 9;row 8 8 8 8;other 5 5 5 5;index d c;key b a;"
                    + "merge c d delete insert 1, 2, 3, 4;".repeat(8)), 0);
            due("3: reasons of a merge", w.plan(7, 0, 0), 1);
            due("3: tests", Writing.tell(w, "columns 1;row 7;" + held + "and a<7;" + "update a = a where count > 0;"
                    + "merge a a keep;"), 0);
            due("3: the last test fails", w.run(0), 0);
            due("3: no reasons", w.plan(1, 0, 0), 0);
            due("3: no reasons", w.plan(2, 0, 0), 0);
            due("3: it holds", w.run(1), 1);
            due("3: no others", w.run(2), 0);
            due("3: one path", w.count(6), 1);
            due("3: no keys", w.count(3), 0);
            due("3: a fault", Writing.tell(w, "columns 4;row 1 2 3 4;key a;delete;insert 1, 2, 3, 4;merge d d keep;x"), 1);
            due("3: it holds", w.run(1), 1);
            due("3: columns stay", w.count(0), 1);
            due("3: updates", Writing.tell(w, "columns 2;row 1 2;row 3 4;" + "update b = a;".repeat(8)), 0);
            due("3: update", w.run(7), 2);
            Writing.row("3", w, 1, 3, 3);
            due("3: no reasons", w.plan(7, 0, 0), 0);
        }
        due("3: refused", w.count(10), 5);
    }

    /** Numbers that rows of more COLUMNS had make no rows unlike later on. */
    private static void promise3Narrower() {
        BulkWriter w = new BulkWriter();
        for (int i = 0; i < 2; i++) {
            due("3: wide", Writing.tell(w, "columns 4;row 1 1 1 1;row 2 2 2 2;row 3 3 3 3;row 4 4 4 4;"), 0);
        }
        due("3: narrow", Writing.tell(w, "columns 1;row 1;row 2;index a;insert a + 5;"), 0);
        due("3: alike in all columns that there are", w.goes(0, 2, 1, 0), 0);
    }

    private static void promise4() {
        BulkWriter w = new BulkWriter();
        due("4: table", Writing.tell(w, "row 1 2 3;row 1 x"), 1);
        due("4: fault", w.fault(), 16);
        illegal("4: table", () -> w.table(1));
        due("4: it stays", w.fault(), 16);
        due("4: table", Writing.tell(w, "key a;row 1 2 3;row 1 4 5;"), 4);
        due("4: fault", w.fault(), 25);
        due("4: table", Writing.tell(w, "row 1 2 3;"), 0);
        due("4: fault", w.fault(), NONE);
        due("4: table", Writing.tell(w, "x"), 1);
        due("4: fault", w.fault(), 0);
    }

    private static void promise5() {
        BulkWriter w = Writing.of("columns 4;row 1 2 3 4;row 5 6 7 8;index a;key b c;key d;other 1 1 1 1;"
                + "other 1 1 1 1;other 1 1 1 1;delete;delete where a = 9;");
        w.run(1);
        w.take(0);
        w.take(0);
        w.lay(0, 0, 1);
        w.see(1, 1, 1);
        w.see(-1, 1, 1);
        Writing.tell(w, "?");
        w.feed(0, 0, 0, 0, 0);
        int[] counts = {4, 1, 3, 6, 3, 2, 7, 2, 1, 20, 1, 2, 1};
        for (int i = 0; i < counts.length; i++) {
            due("5: count(" + i + ")", w.count(i), counts[i]);
        }
        for (int what : new int[] {-1, 13, LOW, HIGH}) {
            missing("5: count(" + what + ")", () -> w.count(what));
        }
    }

    private static void promise6() {
        BulkWriter w = Writing.of("columns 2;row 9999 -9999;row 0 7;");
        Writing.row("6", w, 0, 9999, -9999);
        Writing.row("6", w, 1, 0, 7);
        Writing.row("6", w, 2, HIDDEN, HIDDEN);
        Writing.row("6", w, 29, HIDDEN, HIDDEN);
        w.take(0);
        Writing.row("6", w, 0, HIDDEN, HIDDEN);
        missing("6: place 30", () -> w.cell(30, 0));
        missing("6: place -1", () -> w.cell(-1, 0));
        missing("6: column 2", () -> w.cell(0, 2));
        missing("6: column -1", () -> w.cell(1, -1));
        missing("6: far", () -> w.cell(LOW, HIGH));
    }

    private static void promise7() {
        BulkWriter w = Writing.of("columns 2;row 3 1;row 1 5;row 3 0;row 1 5;index a;index b a;delete where a = 1;");
        int[][] paths = {{0, 1, 2, 3}, {1, 3, 0, 2}, {2, 0, 3, 1}, {2, 0, 1, 3}, {3, 1, 0, 2}};
        for (int path = 0; path < paths.length; path++) {
            for (int i = 0; i < 4; i++) {
                due("7: along(" + path + ", " + i + ")", w.along(path, i), paths[path][i]);
            }
        }
        missing("7: i 4", () -> w.along(0, 4));
        missing("7: i -1", () -> w.along(1, -1));
        missing("7: path 5", () -> w.along(5, 0));
        missing("7: path -1", () -> w.along(-1, 0));
        missing("7: far", () -> w.along(HIGH, LOW));
        w.take(3);
        due("7: as it is", w.along(2, 2), 1);
        missing("7: as it is", () -> w.along(2, 3));
        BulkWriter u = Writing.of("columns 2;row 1 -9999;row 0 9999;row -9999 9999;row -9998 -9999;row 9999 -9999;"
                + "row 9998 9999;index a b;");
        int[] far = {2, 3, 1, 0, 5, 4};
        for (int i = 0; i < 6; i++) {
            due("7: up to the ends", u.along(1, i), far[i]);
            due("7: down to the ends", u.along(2, 5 - i), far[i]);
        }
        BulkWriter v = Writing.of("columns 1;row -9999;row 9999;row 0;row -1;index a;");
        int[] up = {0, 3, 2, 1};
        for (int i = 0; i < 4; i++) {
            due("7: up", v.along(1, i), up[i]);
            due("7: down", v.along(2, 3 - i), up[i]);
        }
    }

    private static void right(String name, BulkWriter w, int statement, int... want) {
        for (int what = 0; what < want.length; what++) {
            due(name + " right(" + statement + ", " + what + ")", w.right(statement, what), want[what]);
        }
    }

    private static void promise8() {
        BulkWriter w = Writing.of("columns 2;row 1 5;row 2 6;row 3 7;update a = b, b = a where a > 1;"
                + "insert b, sum a;delete where a = least a;update a = 1 where a > 3;");
        right("8: update", w, 0, 2, 0, NONE, NONE);
        right("8: insert", w, 1, 3, 0, NONE, NONE);
        right("8: delete", w, 2, 1, 0, NONE, NONE);
        right("8: none holds", w, 3, 0, 0, NONE, NONE);
        due("8: nothing is written", w.count(1), 3);
        due("8: all by the row as it is", w.run(0), 2);
        Writing.row("8", w, 0, 1, 5);
        Writing.row("8", w, 1, 6, 2);
        Writing.row("8", w, 2, 7, 3);
        w.undo();
        w.run(1);
        Writing.row("8", w, 3, 5, 6);
        Writing.row("8", w, 5, 7, 6);
        for (int what : new int[] {-1, 4, LOW, HIGH}) {
            missing("8: what", () -> w.right(0, what));
        }
        for (int s : new int[] {-1, 4, 8, LOW, HIGH}) {
            missing("8: statement", () -> w.right(s, 0));
        }
    }

    private static void promise8Ends() {
        BulkWriter doubles = Writing.of("columns 2;row 1 0;row 2 0;row 2 0;row 1 0;other 9 9;other 0 2;other 1 2;other 0 2;"
                + "merge a b set b = 99 * 999;merge a b delete;merge a b keep;merge a b set b = 1 insert 1, 1;");
        right("8: double by set", doubles, 0, 0, 1, 1, 102);
        right("8: double by delete", doubles, 1, 0, 1, 1, 102);
        right("8: none by keep", doubles, 2, 0, 0, NONE, NONE);
        right("8: double ahead of a new row", doubles, 3, 0, 1, 1, 102);
        BulkWriter over = Writing.of("row 1 2 3;row 5000 9999 -9999;other 3 0 0;"
                + "update c = c - 1, b = b + 1, a = a * 2;update c = c - 1, b = b + 1;update c = c - 1;"
                + "insert a, b, c + c;merge a a keep insert 0, other a * 9999, 0;update a = a + 4999;"
                + "update a = 0 - a - 4999;update a = 9999 * 9999 * 9999 * 9999 * 0 + 7;");
        right("8: over", over, 0, 0, 2, 1, 0);
        right("8: over", over, 1, 0, 2, 1, 1);
        right("8: over", over, 2, 0, 2, 1, 2);
        right("8: over", over, 3, 0, 2, 1, 2);
        right("8: over in a new row of a merge", over, 4, 0, 2, NONE, 1);
        right("8: 9999 is not over", over, 5, 2, 0, NONE, NONE);
        right("8: -9999 is not over", over, 6, 2, 0, NONE, NONE);
        right("8: it is the end that counts", over, 7, 2, 0, NONE, NONE);
        BulkWriter full = Writing.of("columns 1;" + "row 4;".repeat(28) + "other 1;other 2;other 3;insert a + 1;"
                + "merge a a keep insert other a;merge a a set a = 5 insert 9999 + other a;");
        right("8: full", full, 0, 2, 3, NONE, NONE);
        right("8: full by a merge", full, 1, 2, 3, NONE, NONE);
        right("8: over is met in the making, ahead of all writes", full, 2, 0, 2, NONE, 0);
        BulkWriter clash = Writing.of("columns 2;row 1 5;row 2 6;row 3 7;row 4 8;index b;key a b;key b;"
                + "update b = 6 where a > 2;update a = 3, b = 7;update b = 9 where a = 1;");
        right("8: clash", clash, 0, 2, 5, 2, 102);
        right("8: the first key", clash, 1, 4, 5, 1, 1);
        right("8: no clash", clash, 2, 1, 0, NONE, NONE);
    }

    /** REASONS along the paths of an index of a and b and one of c, up and down. */
    private static void reasons(String statement, int... want) {
        BulkWriter w = Writing.of("row 1 1 1;row 2 2 2;other 1 1 1;index a b;index c;" + statement + ";");
        for (int path = 0; path < want.length; path++) {
            due("9: reasons of '" + statement + "' along " + path, w.plan(0, path, 0), want[path]);
        }
    }

    private static void promise9Reasons() {
        reasons("update a = a + 1", 0, 1, 0, 0, 0);
        reasons("update a = a - 1", 0, 0, 1, 0, 0);
        reasons("update a = a - -1", 0, 1, 0, 0, 0);
        reasons("update a = a + -1", 0, 0, 1, 0, 0);
        reasons("update a = a", 0, 0, 0, 0, 0);
        reasons("update a = a + 0", 0, 0, 0, 0, 0);
        reasons("update a = a - 0", 0, 0, 0, 0, 0);
        reasons("update a = a * 0", 0, 1, 1, 0, 0);
        reasons("update a = a, b = b + 1", 0, 1, 0, 0, 0);
        reasons("update b = b - 1", 0, 0, 1, 0, 0);
        reasons("update a = a - 1, b = b + 1", 0, 0, 1, 0, 0);
        reasons("update a = b", 0, 1, 1, 0, 0);
        reasons("update a = b - 1", 0, 1, 1, 0, 0);
        reasons("update a = 1 + a", 0, 1, 1, 0, 0);
        reasons("update a = a - 1 - 1", 0, 1, 1, 0, 0);
        reasons("update a = a - b", 0, 1, 1, 0, 0);
        reasons("update a = 0", 0, 1, 1, 0, 0);
        reasons("update c = c + 1", 0, 0, 0, 1, 0);
        reasons("update b = sum a", 0, 1, 1, 0, 0);
        reasons("update b = count", 0, 1, 1, 0, 0);
        reasons("update b = sum b", 4, 5, 5, 4, 4);
        reasons("update b = least c, c = 1", 4, 5, 5, 5, 5);
        reasons("update a = a where sum a > 0", 2, 2, 2, 2, 2);
        reasons("update a = a where 0 < 1 + most a", 2, 2, 2, 2, 2);
        reasons("update a = a where sum b > count", 0, 0, 0, 0, 0);
        reasons("update c = most c where c < least c", 6, 6, 6, 7, 7);
        reasons("delete", 0, 0, 0, 0, 0);
        reasons("delete where a > b", 0, 0, 0, 0, 0);
        reasons("delete where count > 1", 2, 2, 2, 2, 2);
        reasons("delete where a = 1 and b < most c", 2, 2, 2, 2, 2);
        reasons("insert a, b, c", 1, 1, 1, 1, 1);
        reasons("insert a - 1, b, c", 1, 0, 1, 1, 1);
        reasons("insert a, b + 1, c - 1", 1, 1, 0, 0, 1);
        reasons("insert a - 1, b + 1, c + 0", 1, 0, 1, 1, 1);
        reasons("insert b, a, 5", 1, 1, 1, 1, 1);
        reasons("insert a, b, count", 5, 5, 5, 5, 5);
        reasons("insert a - 1, b, c - 1 where least a < 9", 3, 2, 3, 2, 3);
        reasons("insert a, b, c where count < 9", 3, 3, 3, 3, 3);
    }

    private static void promise9Merges() {
        reasons("merge a b set c = 0", 0, 0, 0, 1, 1);
        reasons("merge a b set c = c", 0, 0, 0, 1, 1);
        reasons("merge a b set b = 0", 0, 1, 1, 0, 0);
        reasons("merge a b set a = a", 1, 1, 1, 1, 1);
        reasons("merge c a delete", 0, 0, 0, 0, 0);
        reasons("merge c a keep", 0, 0, 0, 0, 0);
        reasons("merge c a keep insert 1, 2, 3", 1, 1, 1, 1, 1);
        reasons("merge c a delete insert 1, 2, 3", 1, 1, 1, 1, 1);
        reasons("merge a b set c = sum c", 4, 4, 4, 5, 5);
        reasons("merge a b set c = sum b + count", 0, 0, 0, 1, 1);
        reasons("merge a b set c = sum b insert 1, 2, 3", 5, 5, 5, 5, 5);
        reasons("merge a b delete insert count, 2, 3", 5, 5, 5, 5, 5);
        reasons("merge a b keep insert 1, 2, least a", 5, 5, 5, 5, 5);
    }

    private static void plan(String name, BulkWriter w, int statement, int path, int... want) {
        for (int what = 0; what < want.length; what++) {
            due(name + " plan(" + statement + ", " + path + ", " + what + ")", w.plan(statement, path, what), want[what]);
        }
    }

    private static void promise9Stages() {
        BulkWriter w = Writing.of("columns 2;row 1 0;row 2 0;row 3 0;row 4 0;index a;"
                + "update a = a + 1 where a > 2;update a = a + 1 where 2 < a;delete where count > 3 and a > 2;"
                + "update b = sum b, a = 1 where a = 4;update a = a + 1 where a > 4;insert a, b where count > 1 and 3 > a;"
                + "update b = 9999 * 9;insert sum a, b where a < 3;");
        plan("9: range", w, 0, 1, 1, 1, 2, 2);
        plan("9: no reason", w, 0, 0, 0, 0, 0, 4);
        plan("9: fewer behind the test", w, 1, 1, 1, 2, 2, 4);
        plan("9: 2 or 3", w, 2, 0, 2, 2, 2, 4);
        plan("9: 2 or 3", w, 2, 1, 2, 2, 2, 2);
        plan("9: 3 alone", w, 3, 0, 4, 3, 3, 4);
        plan("9: nothing to hold", w, 4, 1, 1, 1, 0, 0);
        plan("9: 1 and 2", w, 5, 0, 3, 2, 2, 4);
        plan("9: whatever its end", w, 6, 1, 0, 0, 0, 4);
        plan("9: insert holds columns", w, 7, 1, 5, 3, 6, 2);
        BulkWriter m = Writing.of("columns 1;row 1;row 1;row 2;row 3;other 1;other 2;other 7;other 8;index a;"
                + "merge a a keep insert 9;merge a a set a = 5;merge a a delete insert other a;merge a a delete;"
                + "merge a a set a = sum a insert count;");
        plan("9: keep", m, 0, 0, 1, 3, 4, 16);
        plan("9: keep by the index", m, 0, 1, 1, 3, 4, 3);
        plan("9: set", m, 1, 0, 1, 1, 3, 16);
        plan("9: delete and insert", m, 2, 2, 1, 1, 5, 3);
        plan("9: delete", m, 3, 2, 0, 0, 0, 3);
        plan("9: set and insert", m, 4, 0, 5, 3, 10, 16);
        BulkWriter d = Writing.of("columns 1;row 1;row 1;other 1;other 1;index a;merge a a set a = 2;");
        plan("9: two match one", d, 0, 0, 1, 1, 4, 4);
        for (int what : new int[] {-1, 4, LOW, HIGH}) {
            missing("9: what", () -> m.plan(0, 0, what));
        }
        for (int path : new int[] {-1, 3, LOW, HIGH}) {
            missing("9: path", () -> m.plan(0, path, 0));
        }
        for (int s : new int[] {-1, 5, LOW, HIGH}) {
            missing("9: statement", () -> m.plan(s, 0, 0));
        }
    }

    /** How many of 1 to 6 are READ by the index of a along its path up. */
    private static void range(String where, int want) {
        BulkWriter w = Writing.of("columns 2;row 1 1;row 2 2;row 3 3;row 4 4;row 5 5;row 6 6;index a;index b;delete where "
                + where + ";");
        due("9: read by " + where, w.plan(0, 1, 3), want);
        due("9: read down by " + where, w.plan(0, 2, 3), want);
        due("9: all are read by places", w.plan(0, 0, 3), 6);
    }

    private static void promise9Range() {
        range("a < 3", 2);
        range("a = 3", 1);
        range("a > 3", 3);
        range("a > 1 and a < 5", 3);
        range("a > 1 and b = 5 and a < 5", 3);
        range("a = 2 and a = 3", 0);
        range("a < -9999", 0);
        range("a > -1", 6);
        range("3 < a", 6);
        range("b < 3", 6);
        range("a < b", 6);
        range("a + 0 < 3", 6);
        range("a < 3 + 0", 6);
        range("a < count", 6);
    }

    private static void goes(String name, BulkWriter w, int statement, int path, int stage, int... want) {
        for (int what = 0; what < want.length; what++) {
            due(name + " goes(" + statement + ", " + path + ", " + stage + ", " + what + ")",
                    w.goes(statement, path, stage, what), want[what]);
        }
    }

    private static void promise10() {
        BulkWriter w = Writing.of("columns 1;row 1;row 5;index a;update a = a + 1;update a = a + 3 where a < 6;update a = 0 - a;");
        goes("10: never ends", w, 0, 1, 0, 2, 4, 200, 2);
        goes("10: down", w, 0, 2, 0, 0, 0, 2, 0);
        goes("10: spooled", w, 0, 1, 1, 0, 0, 2, 0);
        // 1 -> 4, then 4 -> 7 ahead of 5 -> 8
        goes("10: met again", w, 1, 1, 0, 1, 0, 3, 1);
        // 5 -> -5, 1 -> -1, then -1 -> 1, -5 -> 5
        goes("10: down, each is met anew", w, 2, 2, 0, 2, 0, 4, 2);
        BulkWriter edge = Writing.of("columns 1;row 9798;index a;update a = a + 1;update a = a + 1 where a < 9998;"
                + "update a = a + 1 where a < 9997 + 1;");
        goes("10: one more would be", edge, 0, 1, 0, 1, 4, 200, 1);
        goes("10: just 200", edge, 1, 1, 0, 1, 0, 200, 1);
        goes("10: just 200, read once more", edge, 2, 1, 0, 1, 0, 200, 1);
        edge.lay(0, 0, 9799);
        goes("10: over in the making of one more", edge, 0, 1, 0, 1, 2, 200, 1);
        for (int bad : new int[] {-1, 4, LOW, HIGH}) {
            missing("10: stage", () -> w.goes(0, 0, bad, 0));
            missing("10: what", () -> w.goes(0, 0, 0, bad));
            missing("10: path", () -> w.goes(0, bad, 0, 0));
            missing("10: statement", () -> w.goes(bad, 0, 0, 0));
        }
        missing("10: path 3", () -> w.goes(0, 3, 0, 0));
        due("10: nothing is written", w.cell(0, 0), 1);
    }

    private static void promise10Stages() {
        BulkWriter w = Writing.of("columns 2;row 1 1;row 2 2;row 3 3;index a;delete where count > 2;update b = sum b;"
                + "insert a, count where count < 5;update b = 9999 where sum b < 10;update b = b * 4000;key b;"
                + "update b = 2;");
        goes("10: delete by itself", w, 0, 0, 0, 0, 0, 1, 0);
        goes("10: test behind the spool", w, 0, 0, 1, 0, 0, 1, 0);
        goes("10: test ahead of the spool", w, 0, 0, 2, 0, 0, 3, 0);
        // right: 6 6 6; live: 6, then 11, then 20
        goes("10: made one by one", w, 1, 0, 0, 2, 0, 3, 0);
        goes("10: made behind the test", w, 1, 0, 2, 2, 0, 3, 0);
        goes("10: made ahead of writing", w, 1, 0, 3, 0, 0, 3, 0);
        // right: 3 3 3; live by places: count 3, 4, then the test fails
        goes("10: insert", w, 2, 0, 0, 2, 0, 2, 0);
        goes("10: insert behind reading", w, 2, 0, 1, 2, 0, 2, 0);
        goes("10: insert behind the test", w, 2, 0, 2, 2, 0, 3, 0);
        goes("10: insert behind making", w, 2, 0, 3, 0, 0, 3, 0);
        goes("10: update", w, 3, 0, 0, 2, 0, 1, 0);
        goes("10: update", w, 3, 0, 2, 0, 0, 3, 0);
        // 4000, 8000, then 12000 is over: behind making nothing is written, else two are
        goes("10: over, nothing undone", w, 4, 0, 0, 2, 2, 2, 0);
        goes("10: over, nothing undone", w, 4, 2, 0, 0, 2, 0, 0);
        goes("10: over ahead of writing", w, 4, 0, 3, 0, 2, 0, 0);
        goes("10: a clash is no end here", w, 5, 1, 0, 0, 0, 3, 0);
        due("10: but of the right run", w.right(5, 1), 5);
        BulkWriter full = Writing.of("columns 1;row 1;row 2;insert a + 10;");
        goes("10: full", full, 0, 0, 0, 0, 3, 28, 0);
        goes("10: not full", full, 0, 0, 1, 0, 0, 2, 0);
    }

    private static void promise10Merges() {
        BulkWriter w = Writing.of("columns 1;row 1;other 1;other 5;merge a a delete insert other a;merge a a set a = 5;"
                + "merge a a keep insert 1;");
        goes("10: a place twice", w, 0, 0, 0, 0, 0, 2, 1);
        goes("10: a place twice", w, 0, 0, 3, 0, 0, 2, 1);
        goes("10: met by the next", w, 1, 0, 0, 0, 0, 2, 1);
        goes("10: not met by the next", w, 1, 0, 1, 0, 0, 1, 0);
        goes("10: keep", w, 2, 0, 0, 0, 0, 1, 0);
        BulkWriter v = Writing.of("columns 2;row 1 0;row 2 0;other 1 7;other 2 8;other 7 9;other 9 9;index a;index b;"
                + "merge a a set a = other b insert other b, 0;merge a a set b = sum b + 1;");
        // right: (7 0) (8 0) and new rows (9 0) (9 0); live: 1 -> 7, 2 -> 8, 7 -> 9, 9 -> 9
        goes("10: merge live", v, 0, 0, 0, 2, 0, 4, 1);
        goes("10: merge spooled", v, 0, 0, 1, 0, 0, 4, 0);
        goes("10: merge up", v, 0, 1, 0, 2, 0, 4, 1);
        // right: b is 1 in both; live: 1, then 2
        goes("10: sums live", v, 1, 0, 0, 1, 0, 2, 0);
        goes("10: sums behind the test", v, 1, 3, 2, 1, 0, 2, 0);
        goes("10: sums behind making", v, 1, 3, 3, 0, 0, 2, 0);
        BulkWriter d = Writing.of("columns 1;row 1;other 1;other 1;merge a a set a = 1;");
        goes("10: double at any stage", d, 0, 0, 0, 0, 1, 0, 0);
        goes("10: double at any stage", d, 0, 0, 3, 0, 1, 0, 0);
    }

    private static void promise11() {
        BulkWriter w = Writing.of("columns 2;row 1 1;row 2 2;index a;key b;update a = a + 1;update a = a - 1;"
                + "insert a, b + 2;delete where count > 1;update b = 1;update a = a + 1 where a < 3;merge a a keep;");
        due("11: up", w.wrongPaths(0), 2);
        due("11: down", w.wrongPaths(1), 4);
        // by places full; by a new rows are met, too; by b up full, down not
        due("11: insert", w.wrongPaths(2), 1 + 2 + 8);
        due("11: none are left by the right run, so none is lacking", w.wrongPaths(3), 0);
        due("11: a clash is no other end", w.wrongPaths(4), 0);
        due("11: range", w.wrongPaths(5), 2);
        due("11: nothing is written", w.wrongPaths(6), 0);
        missing("11: statement", () -> w.wrongPaths(7));
        missing("11: statement", () -> w.wrongPaths(-1));
        BulkWriter v = Writing.of("columns 1;row 1;update a = a;");
        due("11: no index", v.wrongPaths(0), 0);
    }

    private static void promise12() {
        BulkWriter w = Writing.of("columns 2;row 1 4;row 2 3;row 3 2;row 4 1;index a;index b;update a = 9 where b < 3;"
                + "update a = a - 1 where a > 1;update a = a + 1 where a > 1;delete where a = 4 and b = 1;insert a - 1, b - 1;");
        due("12: which", w.cheapest(0, 0), 3);
        due("12: cost", w.cheapest(0, 1), 2);
        due("12: up is free", w.cheapest(1, 0), 1);
        due("12: cost", w.cheapest(1, 1), 3);
        due("12: down is free", w.cheapest(2, 0), 2);
        due("12: cost", w.cheapest(2, 1), 3);
        due("12: the first of like ones", w.cheapest(3, 0), 1);
        due("12: cost", w.cheapest(3, 1), 1);
        due("12: places hold, up doesn't", w.cheapest(4, 0), 1);
        due("12: cost", w.cheapest(4, 1), 4);
        for (int what : new int[] {-1, 2, LOW, HIGH}) {
            missing("12: what", () -> w.cheapest(0, what));
        }
        missing("12: statement", () -> w.cheapest(5, 0));
        missing("12: statement", () -> w.cheapest(-1, 0));
    }

    private static void promise13() {
        BulkWriter w = Writing.of("columns 2;row 1 5;row 2 6;row 3 7;key a;update a = a + 1;update a = a - 1;"
                + "update a = 4 - a;update a = 2 where a > 1;delete;update b = 0;update a = 1;update a = 2 where a = 1;");
        due("13: up", w.clashes(0), 2);
        due("13: down", w.clashes(1), 0);
        due("13: swapped", w.clashes(2), 2);
        due("13: the last is not counted", w.clashes(3), 0);
        due("13: deleted", w.clashes(4), 0);
        due("13: no key", w.clashes(5), 0);
        due("13: whatever the end", w.clashes(6), 1);
        due("13: one write", w.clashes(7), 0);
        missing("13: statement", () -> w.clashes(8));
        missing("13: statement", () -> w.clashes(-1));
        BulkWriter v = Writing.of("columns 2;row 1 7;row 2 8;other 5 8;other 2 0;key b;"
                + "merge a a delete insert other a, other b;");
        due("13: a new row ahead of what goes", v.clashes(0), 1);
        due("13: it ends well", v.right(0, 1), 0);
    }

    private static void order(String name, BulkWriter w, int statement, int... want) {
        due(name + " how many", w.order(statement, NONE), want.length);
        for (int i = 0; i < want.length; i++) {
            due(name + " order(" + statement + ", " + i + ")", w.order(statement, i), want[i]);
        }
        missing(name + " behind it", () -> w.order(statement, want.length));
        missing(name + " ahead of it", () -> w.order(statement, -2));
    }

    private static void promise14() {
        BulkWriter w = Writing.of("columns 2;row 1 5;row 2 6;row 3 7;key a;update a = a + 1;update a = 3 - a where a < 3;"
                + "update a = 1;delete;update b = 9999 * 2;update a = a * a - 1 where a > 1;delete where a = 9;"
                + "update a = 10 - a * a where a < 3;");
        order("14: up", w, 0, 2, 1, 0);
        due("14: swapped", w.order(1, NONE), NONE);
        missing("14: swapped", () -> w.order(1, 0));
        due("14: clash at the end", w.order(2, NONE), NONE);
        order("14: deleted", w, 3, 0, 1, 2);
        due("14: over", w.order(4, NONE), NONE);
        missing("14: over", () -> w.order(4, 0));
        // 2 -> 3 waits for 3 -> 8
        order("14: one waits", w, 5, 1, 0);
        order("14: no writes", w, 6);
        // 1 -> 9, 2 -> 6
        order("14: as they are", w, 7, 0, 1);
        missing("14: statement", () -> w.order(8, NONE));
        missing("14: statement", () -> w.order(-1, NONE));
        BulkWriter v = Writing.of("columns 2;row 1 7;row 2 8;other 5 8;other 2 0;key b;"
                + "merge a a delete insert other a, other b;");
        order("14: a new row waits", v, 0, 1, 0);
        BulkWriter chain = Writing.of("columns 1;row 1;row 2;row 3;row 5;key a;update a = a + 1 where a < 4;update a = a + 1;");
        order("14: chain", chain, 0, 2, 1, 0);
        order("14: the first that may be, each time", chain, 1, 2, 1, 0, 3);
    }

    private static void promise15() {
        BulkWriter w = Writing.of("columns 1;" + "row 0;".repeat(20) + "other 0;other 0;"
                + "merge a a delete;update a = 9999 + 1;insert 1;update a = a + 3;delete where a = 1;delete;");
        due("15: double", w.run(0), -2);
        due("15: over", w.run(1), -3);
        due("15: full", w.run(2), -4);
        due("15: all is as ahead", w.count(1), 20);
        due("15: refused", w.count(11), 3);
        due("15: no acts", w.count(7), 0);
        due("15: well", w.run(3), 20);
        due("15: written", w.cell(19, 0), 3);
        due("15: nothing to write is an act, too", w.run(4), 0);
        due("15: acts", w.count(7), 2);
        due("15: deleted", w.run(5), 20);
        due("15: none are left", w.count(1), 0);
        due("15: refused", w.count(11), 3);
        missing("15: statement", () -> w.run(6));
        missing("15: statement", () -> w.run(-1));
        due("15: throwing is no refusal", w.count(11), 3);
        BulkWriter v = Writing.of("columns 2;row 1 5;row 2 6;key a;update a = 2;update a = 3 - a;insert a + 2, sum b;"
                + "update a = a + 1;");
        due("15: clash", v.run(0), -6);
        due("15: undone", v.cell(0, 0), 1);
        due("15: swapped", v.run(1), 2);
        Writing.row("15", v, 0, 2, 5);
        Writing.row("15", v, 1, 1, 6);
        due("15: insert", v.run(2), 2);
        Writing.row("15", v, 2, 4, 11);
        Writing.row("15", v, 3, 3, 11);
        v.take(1);
        due("15: insert into the gap", v.run(2), -6);
        due("15: update", v.run(3), 3);
        due("15: insert into the gap", v.run(2), -6);
        v.take(2);
        due("15: insert into gaps", v.run(2), 2);
        Writing.row("15", v, 1, 5, 16);
        Writing.row("15", v, 2, 6, 16);
    }

    private static void promise16() {
        BulkWriter w = Writing.of("columns 2;row 1 5;row 2 5;row 1 6;key a b;");
        due("16: laid", w.lay(0, 0, 9999), 1);
        due("16: it is there", w.cell(0, 0), 9999);
        due("16: laid", w.lay(0, 0, -9999), 9999);
        due("16: an act", w.count(7), 2);
        due("16: too much", w.lay(0, 0, 10000), HIDDEN);
        due("16: too little", w.lay(0, 0, -10000), HIDDEN);
        due("16: far", w.lay(0, 0, LOW), HIDDEN);
        due("16: HIDDEN", w.lay(0, 0, HIDDEN), HIDDEN);
        due("16: no row", w.lay(3, 0, 1), HIDDEN);
        due("16: a key", w.lay(0, 0, 2), HIDDEN);
        due("16: refused", w.count(11), 6);
        due("16: it stays", w.cell(0, 0), -9999);
        due("16: no acts", w.count(7), 2);
        due("16: alike in one column", w.lay(0, 0, 1), -9999);
        due("16: alike in both", w.lay(0, 1, 6), HIDDEN);
        due("16: the same number is an act", w.lay(0, 1, 5), 5);
        due("16: acts", w.count(7), 4);
        missing("16: place", () -> w.lay(30, 0, 1));
        missing("16: place", () -> w.lay(-1, 0, 1));
        missing("16: column", () -> w.lay(0, 2, 1));
        missing("16: column", () -> w.lay(0, -1, 10000));
        due("16: refused", w.count(11), 7);
    }

    private static void promise17() {
        BulkWriter w = Writing.of("columns 1;row 1;row 2;row 3;insert a + 5 where a = 1;");
        due("17: taken", w.take(1), 2);
        due("17: gone", w.cell(1, 0), HIDDEN);
        due("17: none", w.take(1), NONE);
        due("17: none", w.take(29), NONE);
        due("17: refused", w.count(11), 2);
        due("17: acts", w.count(7), 1);
        missing("17: place", () -> w.take(30));
        missing("17: place", () -> w.take(-1));
        missing("17: place", () -> w.take(HIGH));
        due("17: refused", w.count(11), 2);
        w.run(0);
        due("17: the first place that is free", w.cell(1, 0), 6);
        due("17: taken", w.take(0), 2);
        due("17: taken", w.take(1), 1);
        due("17: taken", w.take(2), 0);
    }

    private static void promise18() {
        BulkWriter w = Writing.of("columns 1;row 0;row 7;update a = a + 1;");
        due("18: none", w.undo(), NONE);
        w.run(0);
        w.take(1);
        w.lay(0, 0, 50);
        due("18: laid", w.undo(), 2);
        due("18: as it was", w.cell(0, 0), 1);
        due("18: taken", w.undo(), 1);
        due("18: as it was", w.cell(1, 0), 8);
        due("18: run", w.undo(), 0);
        due("18: as it was", w.cell(1, 0), 7);
        due("18: none", w.undo(), NONE);
        due("18: no refusal", w.count(11), 0);
        for (int i = 1; i <= 45; i++) {
            w.lay(0, 0, i);
            due("18: acts", w.count(7), Math.min(i, 40));
        }
        for (int i = 39; i >= 0; i--) {
            due("18: left", w.undo(), i);
            due("18: as it was", w.cell(0, 0), i + 5);
        }
        due("18: none", w.undo(), NONE);
        due("18: the latest alone", w.cell(0, 0), 5);
        due("18: again", w.run(0), 2);
        due("18: again", w.undo(), 0);
        due("18: again", w.cell(0, 0), 5);
    }

    private static void promise19() {
        BulkWriter w = Writing.of("columns 2;row 1 2;");
        due("19: seen", w.see(0, 0, 9999), 1);
        due("19: seen", w.see(29, 1, -9999), 2);
        due("19: seen", w.see(29, 1, HIDDEN), 3);
        due("19: too much", w.see(0, 0, 10000), NONE);
        due("19: too little", w.see(0, 0, -10000), NONE);
        due("19: far", w.see(0, 0, LOW), NONE);
        due("19: place", w.see(30, 0, 1), NONE);
        due("19: place", w.see(-1, 0, 1), NONE);
        due("19: column", w.see(0, 2, 1), NONE);
        due("19: column", w.see(0, -1, 1), NONE);
        due("19: refused", w.count(12), 7);
        for (int i = 4; i <= 8; i++) {
            due("19: seen", w.see(0, 0, 1), i);
        }
        due("19: there are 8", w.see(0, 0, 1), NONE);
        due("19: refused", w.count(12), 8);
        due("19: how much", w.count(8), 8);
        due("19: no act", w.count(11), 0);
    }

    private static void promise20() {
        BulkWriter w = Writing.of("columns 2;row 1 5;row 2 6;key a;update b = b + 1;update b = b + 1 where a = 1;"
                + "delete where a = 2;insert a + 5, b;update a = 1;delete where a = 9;");
        due("20: all without any", w.fits(), 63);
        w.see(0, 1, 6);
        due("20: 6", w.fits(), 1 + 2);
        w.see(1, 1, 6);
        due("20: 6 and 6", w.fits(), 2);
        w.see(2, 0, HIDDEN);
        due("20: no row", w.fits(), 2);
        w.see(2, 1, 5);
        due("20: nothing fits", w.fits(), 0);
        w.forget();
        w.see(1, 1, HIDDEN);
        due("20: it is gone", w.fits(), 4);
        w.forget();
        w.see(2, 0, 6);
        due("20: a new one", w.fits(), 8);
        w.forget();
        w.see(1, 0, 2);
        w.see(2, 1, HIDDEN);
        due("20: one that can't be leaves all", w.fits(), 1 + 2 + 16 + 32);
        due("20: nothing is written", w.count(1), 2);
        w.run(0);
        w.forget();
        w.see(0, 1, 7);
        due("20: run now", w.fits(), 1 + 2);
    }

    private static void promise21() {
        BulkWriter w = Writing.of("columns 2;row 1 5;row 2 6;update b = 7;update b = 8 where a = 2;delete where a = 2;"
                + "insert a + 5, b where a = 2;");
        // behind them (1 1) is 7, 8, none, 6; (0 1) is 7 or 5
        due("21: which", w.look(0), 11);
        due("21: how many", w.look(1), 4);
        w.see(2, 0, HIDDEN);
        due("21: which", w.look(0), 11);
        due("21: how many", w.look(1), 3);
        w.see(0, 1, 7);
        due("21: one alone", w.look(0), 0);
        due("21: one alone", w.look(1), 1);
        w.see(0, 1, 5);
        due("21: none", w.look(0), NONE);
        due("21: none", w.look(1), 0);
        for (int what : new int[] {-1, 2, LOW, HIGH}) {
            missing("21: what", () -> w.look(what));
        }
        BulkWriter v = Writing.of("row 1 2 3;row 4 5 6;update c = 9;update b = 9;");
        due("21: the least of like ones", v.look(0), 1);
        due("21: how many", v.look(1), 2);
        BulkWriter u = Writing.of("row 1 2 3;insert 1, 2, 3;delete where a = 9;");
        due("21: a row or none", u.look(0), 10);
        due("21: a row or none", u.look(1), 2);
    }

    private static void promise22() {
        BulkWriter w = Writing.of("columns 1;row 1;update a = 2;update a = 3;");
        w.see(0, 0, 2);
        w.see(0, 0, 3);
        due("22: nothing fits", w.fits(), 0);
        w.forget();
        due("22: nothing is seen", w.count(8), 0);
        due("22: all fit", w.fits(), 3);
        due("22: seen anew", w.see(0, 0, 3), 1);
        due("22: seen anew", w.fits(), 2);
        due("22: nothing is refused", w.count(12), 0);
    }

    private static void years(String name, BulkWriter w, int seed, int n, int... want) {
        for (int what = 0; what < want.length; what++) {
            due(name + " years(" + seed + ", " + n + ", " + what + ")", w.years(seed, n, what), want[what]);
        }
    }

    private static void promise23() {
        // Doubled four times, full from then on; what the draws are was worked out by a script apart from the class.
        BulkWriter w = Writing.of("columns 1;row 1;insert a;");
        years("23:", w, 5, 0, 0, 0, 1);
        years("23:", w, 5, 1, 1, 0, 2);
        years("23:", w, 5, 3, 1, 0, 2);
        years("23:", w, 5, 20, 15, 8, 16);
        years("23:", w, -7, 20, 15, 6, 16);
        years("23:", w, HIGH, 1, 0, 0, 1);
        years("23:", w, HIGH, 20, 15, 9, 16);
        years("23:", w, 0, 3, 7, 0, 8);
        due("23: nothing changes", w.count(1), 1);
        due("23: nothing is refused", w.count(11), 0);
        due("23: no acts", w.count(7), 0);
        BulkWriter v = Writing.of("columns 2;" + "row 0 0;".repeat(30) + "delete where a > 4;delete where b > 4;");
        years("23: laid", v, 5, 1, 0, 0, 30);
        years("23: laid", v, 5, 10, 1, 0, 29);
        years("23: laid", v, 5, 20, 4, 0, 26);
        years("23: laid", v, -7, 20, 5, 0, 25);
        years("23: laid", v, HIGH, 10, 3, 0, 27);
        missing("23: what", () -> w.years(5, 4, 3));
        missing("23: what", () -> w.years(5, 4, -1));
        missing("23: what ahead of n", () -> w.years(5, 21, 3));
        illegal("23: n", () -> w.years(5, 21, 0));
        illegal("23: n", () -> w.years(5, -1, 2));
        illegal("23: n", () -> w.years(5, LOW, 1));
        BulkWriter u = Writing.of("columns 1;row 1;");
        years("23: no statements", u, 5, 20, 0, 0, 1);
    }

    private static void promise24And25() {
        BulkWriter w = Writing.of("columns 1;row 1;row 2;update a = a + 1;update a = 9999 + a;");
        due("25: none", w.restore() ? 1 : 0, 0);
        w.run(0);
        w.run(1);
        w.see(0, 0, 3);
        w.see(0, 9, 3);
        w.image();
        w.take(0);
        w.run(1);
        w.see(1, 0, 5);
        w.see(1, 9, 5);
        Writing.tell(w, "?");
        w.feed(0, 0, 0, 0, 0);
        due("25: restored", w.restore() ? 1 : 0, 1);
        int[] counts = {1, 2, 0, 0, 0, 2, 1, 1, 1, 20, 0, 1, 1};
        for (int i = 0; i < counts.length; i++) {
            due("25: count(" + i + ")", w.count(i), counts[i]);
        }
        due("25: the tape and the fault are none of it", w.fault(), 0);
        due("25: rows", w.cell(0, 0), 2);
        due("25: seen", w.fits(), 1);
        due("25: acts", w.undo(), 0);
        due("25: acts", w.cell(0, 0), 1);
        due("25: again", w.restore() ? 1 : 0, 1);
        due("25: rows", w.cell(0, 0), 2);
        w.take(0);
        w.image();
        w.undo();
        w.undo();
        due("24: in place of another", w.restore() ? 1 : 0, 1);
        due("24: rows", w.count(1), 1);
        due("24: acts", w.count(7), 2);
        due("24: the acts are its own", w.undo(), 1);
        due("24: rows", w.cell(0, 0), 2);
        w.lay(0, 0, 77);
        w.lay(0, 0, 78);
        w.restore();
        w.undo();
        due("24: later acts leave it alone", w.cell(0, 0), 2);
    }

    private static void values() {
        BulkWriter w = Writing.of("columns 2;row 3 -4;row 7 -2;update a = 1 + 2 * 3;update a = 2 - a - - 5;"
                + "update a = sum a * count;update a = least b - most b;update a = most a * least a;"
                + "update a = 8192 * 8192 * 64 + 5;update a = 8192 * 8192 * 32;delete;");
        int[][] want = {{9, 9}, {4, 0}, {20, 20}, {-2, -2}, {21, 21}, {5, 5}};
        for (int s = 0; s < want.length; s++) {
            w.run(s);
            due("2: value " + s, w.cell(0, 0), want[s][0]);
            due("2: value " + s, w.cell(1, 0), want[s][1]);
            w.undo();
        }
        due("2: the least int is over", w.right(6, 1), 2);
        due("2: all are deleted", w.run(7), 2);
        BulkWriter v = Writing.of("columns 2;other 5 6;merge a a keep insert sum a + 1, count * 9 + least a + most b;");
        due("2: 0 without any", v.run(0), 1);
        Writing.row("2", v, 0, 1, 0);
    }
}
