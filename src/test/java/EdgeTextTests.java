/** Boundaries of the first part of the terms: the table, texts, tokens, faults. */
public final class EdgeTextTests {
    public static void main(String[] args) throws ReflectiveOperationException, java.io.IOException {
        Edges.runAll(EdgeTextTests.class);
        Writing.end("EdgeTextTests");
    }

    private static void holds(String sentence) {
        Edges.holds("Terms 1", sentence);
    }

    private static BulkWriter good(String text) {
        return Edges.good(text);
    }

    private static void bad(int kind, String marked) {
        Edges.bad(kind, marked);
    }

    private static void due(String what, long got, long want) {
        Edges.due(what, got, want);
    }

    // ---- the table

    private static void tableHasOneToFourColumns() {
        holds("A TABLE of COLUMNS a, b .. (1 to 4; 3 without)");
        BulkWriter one = good("columns 1;row 7;");
        due("one", one.count(0), 1);
        Edges.row(one, 0, 7);
        Edges.missing("one has no second", () -> one.cell(0, 1));
        BulkWriter four = good("columns 4;row 1 2 3 4;");
        due("four", four.count(0), 4);
        Edges.row(four, 0, 1, 2, 3, 4);
        Edges.missing("four have no fifth", () -> four.cell(0, 4));
        BulkWriter three = good("row 1 2 3;");
        due("not told", three.count(0), 3);
        Edges.missing("three have no fourth", () -> three.cell(0, 3));
        bad(2, "columns ^0;");
        bad(2, "columns ^5;");
    }

    private static void tableHasThirtyPlaces() {
        holds("has ROWS at PLACES 0 to 29");
        BulkWriter w = good("columns 1;row 4;" + "row 5;".repeat(28) + "row 6;");
        due("all", w.count(1), 30);
        due("the first", w.cell(0, 0), 4);
        due("the last but one", w.cell(28, 0), 5);
        due("the last", w.cell(29, 0), 6);
        Edges.missing("none behind it", () -> w.cell(30, 0));
        Edges.missing("none ahead of the first", () -> w.cell(-1, 0));
    }

    private static void tableHoldsNumbersUpTo9999() {
        holds("each a number, -9999 to 9999, for each COLUMN");
        BulkWriter w = good("columns 2;row 9999 -9999;update a = a + 1;update b = b - 1;update a = 9999, b = -9999;");
        Edges.row(w, 0, 9999, -9999);
        due("no more than 9999", w.run(0), -3);
        due("no less than -9999", w.run(1), -3);
        due("just so", w.run(2), 1);
        due("by hand", w.lay(0, 0, 10000), Edges.HIDDEN);
        due("by hand", w.lay(0, 1, -10000), Edges.HIDDEN);
        Edges.row(w, 0, 9999, -9999);
        bad(2, "columns 2;row ^10000 1;");
        bad(2, "columns 2;row 1 -^10000;");
    }

    private static void indexesAreThreeAtMost() {
        holds("INDEXES (at most 3)");
        due("none", good("").count(2), 0);
        BulkWriter w = good("index a;key b;index c;");
        due("three", w.count(2), 3);
        due("seven paths", w.count(6), 7);
        bad(2, "index a;key b;index c;^index a;");
    }

    private static void indexesHaveOneColumnOrTwo() {
        holds("of one COLUMN or two");
        good("index a;");
        good("index a b;");
        bad(1, "index^;");
        bad(1, "index a b ^c;");
        bad(1, "key a b ^a;");
    }

    private static void indexesOrderByFirstSecondPlace() {
        holds("in their order ROWS stand by the first, then by the second, then by PLACE");
        BulkWriter w = good("columns 2;row 2 -9999;row 1 9999;row 1 3;row 1 3;row 1 -9999;row -9999 9999;"
                + "row 0 9999;index a b;index b;index a;");
        Edges.along(w, 1, 5, 6, 4, 2, 3, 1, 0);
        Edges.along(w, 2, 0, 1, 3, 2, 4, 6, 5);
        // by the only column, then by place
        Edges.along(w, 3, 0, 4, 2, 3, 1, 5, 6);
        Edges.along(w, 5, 5, 6, 1, 2, 3, 4, 0);
    }

    private static void indexOrderAtTheEndsOfNumbers() {
        holds("then by the second, then by PLACE; a KEY");
        BulkWriter w = good("columns 2;row 1 -9999;row 0 9999;row 9999 -9999;row 9998 9999;row -9998 -9999;"
                + "row -9999 9999;key a b;");
        Edges.along(w, 1, 5, 4, 1, 0, 3, 2);
        Edges.along(w, 2, 2, 3, 0, 1, 4, 5);
    }

    private static void keysAreOfAllTheirColumns() {
        holds("a KEY is an INDEX in which no two ROWS are alike in its COLUMNS");
        BulkWriter w = good("columns 3;row 1 2 5;row 1 3 5;row 2 2 5;key a b;");
        due("it is both", w.count(2), 1);
        due("it is both", w.count(3), 1);
        due("alike in both", w.lay(1, 1, 2), Edges.HIDDEN);
        due("alike in both", w.lay(2, 0, 1), Edges.HIDDEN);
        due("alike in the first", w.lay(2, 1, 9), 2);
        due("alike in the second", w.lay(2, 1, 3), 9);
        due("alike elsewhere", w.lay(2, 2, 6), 5);
        due("an index is none", good("columns 1;row 1;row 1;index a;").count(3), 0);
        bad(4, "columns 1;row 1;row 1;key a^;");
    }

    private static void keysCompareAllTwo() {
        holds("no two ROWS are alike");
        BulkWriter w = good("columns 1;row 7;row 0;row 1;row 2;row 3;row 4;row 5;row 6;key a;");
        due("the first and the last", w.lay(7, 0, 7), Edges.HIDDEN);
        due("the last and the first", w.lay(0, 0, 6), Edges.HIDDEN);
        due("two neighbours", w.lay(3, 0, 1), Edges.HIDDEN);
        due("itself is none", w.lay(3, 0, 2), 2);
    }

    private static void othersAreTenAtMost() {
        holds("OTHERS: rows likewise (at most 10), 0, 1 .. as told");
        due("none", good("").count(4), 0);
        BulkWriter w = good("columns 1;row 7;other 7;other 0;other 1;other 2;other 3;other 4;other 5;other 6;"
                + "other 8;other 7;merge a a delete;");
        due("ten", w.count(4), 10);
        // alike are the first, 0, and the tenth, 9
        Edges.right(w, 0, 0, 1, 0, 9);
        bad(2, "columns 1;" + "other 1;".repeat(10) + "^other 1;");
        bad(1, "columns 2;other 1^;");
    }

    private static void statementsAreEightAtMost() {
        holds("STATEMENTS (at most 8), 0, 1 .. as told");
        StringBuilder text = new StringBuilder("columns 1;row 50;");
        for (int i = 0; i < 8; i++) {
            text.append("update a = ").append(10 + i).append(";");
        }
        BulkWriter w = good(text.toString());
        due("eight", w.count(5), 8);
        for (int i = 0; i < 8; i++) {
            w.run(i);
            due("as told", w.cell(0, 0), 10 + i);
        }
        Edges.missing("no ninth", () -> w.run(8));
        Edges.missing("none ahead", () -> w.run(-1));
        bad(2, text + "^delete;");
    }

    // ---- the text

    private static void textHas900Bytes() {
        holds("A TEXT of at most 900 bytes tells it");
        BulkWriter w = good("row 1 2 3;" + " ".repeat(880) + "row 4 5 6;");
        due("both", w.count(1), 2);
        Edges.row(w, 1, 4, 5, 6);
        bad(1, " ".repeat(899) + "^?");
        bad(1, " ".repeat(896) + "row ^");
        BulkWriter full = new BulkWriter();
        for (int i = 0; i < 45; i++) {
            full.feed(0x20202020, 0x20202020, 0x20202020, 0x20202020, 0x20202020);
        }
        Edges.illegal("901", () -> full.table(901));
        due("900", full.table(900), 0);
    }

    private static void wordsAreTheLongestRow() {
        holds("words (a .. z, the longest row)");
        bad(1, "^rowrow 1 2 3;");
        bad(1, "^ro w 1 2 3;");
        bad(1, "^ow 1 2 3;");
        bad(1, "^rows 1 2 3;");
        bad(1, "update a = 1 ^wherea = 1;");
        bad(1, "index ^ab;");
        bad(1, "index ^az;");
        bad(1, "index ^aza;");
        good("update a=1where a=1;");
        good("row1 2 3;index a;");
        // the signs beside a and z, and capital letters
        bad(1, "^`");
        bad(1, "^{");
        bad(1, "^Row 1 2 3;");
        bad(1, "^ro`w 1 2 3;");
        bad(1, "^z");
    }

    private static void numbersHaveOneToFourDigits() {
        holds("NUMBERS (1 to 4 digits)");
        BulkWriter w = good("columns 1;row 7;row 77;row 777;row 7777;row 0;row 0000;row 0007;row 9999;");
        int[] want = {7, 77, 777, 7777, 0, 0, 7, 9999};
        for (int place = 0; place < want.length; place++) {
            Edges.row(w, place, want[place]);
        }
        bad(2, "columns 1;row ^77777;");
        bad(2, "columns 1;row ^00007;");
        good("columns 4;row 1 23 456 7890;");
    }

    private static void signsAreEight() {
        holds("signs ; , + - * < = >");
        BulkWriter w = good("row -1 2 3;update a = a + 4 * 2 - 1, b = 9 where a < 0 and b > 1 and c = 3;");
        due("all are taken", w.run(0), 1);
        Edges.row(w, 0, 5, 9, 3);
    }

    /** Behind the last number of a row, each byte there is. */
    private static void blanksAreTwo() {
        holds("blanks (32, 10) between them count for nothing");
        for (int sign = 0; sign < 256; sign++) {
            BulkWriter w = new BulkWriter();
            boolean isBlank = sign == 32 || sign == 10;
            boolean isDigit = sign >= '0' && sign <= '9';
            int got = Writing.tell(w, "row 1 2 3" + (char) sign + ";");
            due("byte " + sign, got, isBlank || isDigit ? 0 : 1);
            due("its place", w.fault(), isBlank || isDigit ? -1 : sign == ';' ? 10 : 9);
        }
        BulkWriter many = good(" \n\nrow\n-\n1  2\n \n3\n; \n");
        Edges.row(many, 0, -1, 2, 3);
        BulkWriter few = good("row-1-2-3;update a=a- -1,b=-2where a<0and b=-2;");
        Edges.row(few, 0, -1, -2, -3);
        due("none are needed", few.run(0), 1);
        due("only blanks", good(" \n ").count(1), 0);
        // between two digits they part numbers, between two letters words
        bad(1, "row 1 2 3 ^3;");
        bad(1, "^r ow 1 2 3;");
    }

    private static void textMayBeEmpty() {
        holds("TEXT: CLAUSE*");
        due("no clause", good("").count(0), 3);
        due("one", good("row 1 2 3;").count(1), 1);
        due("many", good("row 1 2 3;".repeat(30)).count(1), 30);
        bad(1, "^;");
        bad(1, "row 1 2 3;^;");
    }

    private static void quotesAndBracketsAreNoPartOfIt() {
        holds("In quotes is what stands there, [ ] perhaps, * any number of times, | one of some");
        bad(1, "^'row' 1 2 3;");
        bad(1, "^[row 1 2 3;]");
        bad(1, "^(row 1 2 3;)");
        bad(1, "row^|other 1 2 3;");
        bad(1, "row 1 2 3 ^*;");
    }

    private static void columnsHaveOneNumber() {
        holds("CLAUSE: ('columns' NUMBER");
        due("two", good("columns 2;").count(0), 2);
        due("no blank is needed", good("columns2;").count(0), 2);
        bad(1, "columns^;");
        bad(1, "columns ^-2;");
        bad(1, "columns 2 ^3;");
        bad(1, "columns 2^, 3;");
    }

    private static void keysAreToldAsIndexes() {
        holds("('key' | 'index') COLUMN [COLUMN]");
        BulkWriter w = good("index a;key b;key c a;");
        due("all are indexes", w.count(2), 3);
        due("the second and the third are keys", w.count(3), 6);
        for (String word : new String[] {"key", "index"}) {
            bad(1, word + "^;");
            bad(1, word + " ^1;");
            bad(1, word + " ^" + word + " a;");
            bad(1, word + " a ^1;");
            bad(1, word + " a^, b;");
            bad(1, word + " a b ^c;");
        }
    }

    private static void rowsHaveSignedNumbers() {
        holds("('row' | 'other') SIGNED SIGNED*");
        good("columns 1;row 1;other 1;");
        good("columns 4;row -1 -2 -3 -4;other -1 -2 -3 -4;");
        bad(1, "columns 1;row^;");
        bad(1, "columns 1;other^;");
        bad(1, "row 1^, 2, 3;");
    }

    private static void updatesMayHaveNoWhere() {
        holds("'update' SETS [WHERE] | 'delete' [WHERE] | 'insert' VALUES [WHERE]");
        BulkWriter w = good("columns 1;row 1;row 2;update a = 5;update a = 5 where a = 1;delete;delete where a = 1;"
                + "insert 7;insert 7 where a = 1;");
        int[] want = {2, 1, 2, 1, 2, 1};
        for (int i = 0; i < want.length; i++) {
            Edges.right(w, i, want[i], 0);
        }
        bad(1, "update ^where a = 1;");
        bad(1, "insert ^where a = 1;");
        bad(1, "delete where a = 1 ^where a = 1;");
    }

    private static void mergesMayHaveNoInsert() {
        holds("'merge' COLUMN COLUMN ('set' SETS | 'delete' | 'keep') ['insert' VALUES]");
        good("merge a b set c = 1;merge a b delete;merge a b keep;");
        good("merge a b set c = 1 insert 1, 2, 3;merge a b delete insert 1, 2, 3;merge a b keep insert 1, 2, 3;");
        bad(1, "merge a ^keep;");
        bad(1, "merge a b ^c keep;");
        bad(1, "merge a b^;");
        bad(1, "merge a b ^insert 1, 2, 3;");
        bad(1, "merge a b keep ^delete;");
        bad(1, "merge a b keep insert^;");
        bad(1, "merge a b keep ^where a = 1;");
        bad(1, "merge a b keep insert 1, 2, 3 ^insert 1, 2, 3;");
    }

    private static void clausesEndWithASign() {
        holds("['insert' VALUES]) ';'");
        for (String clause : new String[] {"columns 3", "row 1 2 3", "other 1 2 3", "key a", "index a b", "update a = 1",
                "update a = 1 where a = 1", "delete", "delete where a = 1", "insert 1, 2, 3", "merge a a set a = 1",
                "merge a a delete", "merge a a keep", "merge a a keep insert 1, 2, 3"}) {
            good(clause + ";");
            bad(1, clause + "^");
            bad(1, clause + " ^key a;");
        }
    }

    private static void signedHasOneSign() {
        holds("SIGNED: ['-'] NUMBER");
        Edges.row(good("columns 2;row -5 5;"), 0, -5, 5);
        Edges.row(good("columns 1;row -0;"), 0, 0);
        bad(1, "columns 1;row - ^- 5;");
        bad(1, "columns 1;row ^+5;");
        bad(1, "columns 1;row -^;");
        bad(1, "columns 1;row -^a;");
    }

    private static void setsAreOneAndMore() {
        holds("SETS: SET (',' SET)*. SET: COLUMN '=' VALUE");
        BulkWriter w = good("columns 4;row 1 2 3 4;update a = 5;update a = 5, b = 6, c = 7, d = 8;");
        w.run(1);
        Edges.row(w, 0, 5, 6, 7, 8);
        bad(1, "update^;");
        bad(1, "update a^;");
        bad(1, "update a = 1,^;");
        bad(1, "update a = 1 ^b = 2;");
        bad(1, "update ^1 = 1;");
        bad(1, "update a ^< 1;");
    }

    private static void valuesArePartedByCommas() {
        holds("VALUES: VALUE (',' VALUE)*");
        good("columns 1;insert 1;");
        good("columns 4;insert 1, 2, 3, 4;");
        bad(1, "columns 2;insert 1 ^2;");
        bad(1, "columns 2;insert ^, 1;");
        bad(1, "columns 2;insert 1, ^, 2;");
    }

    private static void valueIsOneAtomAndMore() {
        holds("VALUE: ATOM (('+' | '-' | '*') ATOM)*");
        BulkWriter w = good("columns 1;row 5;update a = 1" + "+1".repeat(430) + ";");
        due("431 atoms", w.run(0), 1);
        Edges.row(w, 0, 431);
        bad(1, "update a = ^+ 1;");
        bad(1, "update a = 1 +^;");
        bad(1, "update a = 1 + ^* 1;");
        bad(1, "update a = 1 ^1;");
        good("update a = 1 - -1;");
        bad(1, "update a = 1 - - ^- 1;");
    }

    private static void atomsOfTheWholeTable() {
        holds("ATOM: SIGNED | COLUMN | 'other' COLUMN | ('sum' | 'least' | 'most') COLUMN | 'count'");
        good("update a = -5 + b + sum c + least a + most b + count;");
        good("merge a a set a = other c;");
        bad(1, "update a = - ^b;");
        bad(1, "update a = sum ^5;");
        bad(1, "update a = least^;");
        bad(1, "update a = most ^count;");
        bad(1, "update a = count ^a;");
        bad(1, "merge a a set a = other^;");
    }

    private static void whereHasOneTestAndMore() {
        holds("WHERE: 'where' TEST ('and' TEST)*. TEST: VALUE ('<' | '=' | '>') VALUE");
        String tests = "where a=7" + "and a=7".repeat(122);
        Edges.right(good("columns 1;row 7;delete " + tests + ";"), 0, 1);
        Edges.right(good("columns 1;row 7;delete " + tests + "and a<7;"), 0, 0);
        bad(1, "delete where^;");
        bad(1, "delete where a^;");
        bad(1, "delete where a =^;");
        bad(1, "delete where a = 1 ^= 1;");
        bad(1, "delete where a = 1 and^;");
        bad(1, "delete where a = 1 and ^and a = 1;");
        bad(1, "delete ^and a = 1;");
        bad(1, "delete where a < ^= 1;");
    }

    private static void columnsAreLettersAToD() {
        holds("COLUMN: one of the letters a to d");
        due("d is one", good("columns 4;index d;").count(2), 1);
        bad(1, "columns 4;index ^e;");
        bad(1, "columns 4;index ^z;");
        bad(1, "columns 4;index ^A;");
        bad(3, "columns 3;index ^d;");
    }

    private static void rowsLieAtTheFirstFreePlace() {
        holds("A 'row' lies at the first PLACE that is free");
        BulkWriter w = good("columns 1;row 5;index a;row 6;delete;row 7;");
        Edges.row(w, 0, 5);
        Edges.row(w, 1, 6);
        Edges.row(w, 2, 7);
        Edges.row(w, 3, Edges.HIDDEN);
    }

    // ---- faults

    private static void faultIsTheFirst() {
        holds("FAULTS, the first along the text");
        bad(3, "index ^d;row 1;columns 9;");
        bad(1, "row 1^;index d;columns 9;");
        bad(4, "row 1 2 3;^columns 9;index d;");
        bad(1, "insert 1, 2^;columns 9;");
        bad(1, "merge a a keep insert 1^;row 1;");
        bad(2, "columns ^9;?");
        bad(2, "row ^12345 ?");
    }

    private static void faultIsAtTheFirstByte() {
        holds("at a TOKEN's first byte");
        bad(1, "row 1 2 3;   \n^nothing 5;");
        bad(2, "row 1 2    ^123456;");
        bad(4, "row 1 2 3;\n^columns 3;");
        bad(2, "index a;index b;index c; ^index d;");
    }

    private static void faultIsTheLeast() {
        holds("of one TOKEN the least");
        // too many, and too long
        bad(1, "row 1 2 3 ^44444;");
        bad(1, "^44444;");
        bad(1, "delete ^44444;");
        // too few, and a key alike
        bad(1, "key a;row 1 2 3;row 1 2^;");
        // a third column that there isn't
        bad(1, "index a b ^d;");
        // what can't stand there, and comes too late
        bad(1, "row 1 2 3;delete ^columns 2;");
        bad(1, "update ^other a = 1;");
    }

    private static void faultOneIsNoToken() {
        holds("1 a TOKEN that can't stand there, or is none");
        bad(1, "^5 row;");
        bad(1, "^a;");
        bad(1, "^set a = 1;");
        bad(1, "row 1 2 3;^/");
        bad(1, "row 1 ^. 3;");
        bad(1, "^unknown;");
        bad(1, "columns ^-1;");
        bad(1, "columns 2 ^2;");
        bad(1, "columns ^a;");
    }

    private static void faultAtTheTextsLength() {
        holds("(the text's length where it ends too soon)");
        bad(1, "row^");
        bad(1, "row 1 2 3^");
        bad(1, "row 1 2 3 \n ^");
        bad(1, "columns^");
        bad(1, "update a = 1 where^");
        bad(1, "insert 1,^");
        bad(1, "key a b^");
        // ahead of what a key would say
        bad(1, "row 1 2 3;row 1 2 3;key a^");
    }

    private static void faultOfMoreOrFewerNumbers() {
        holds("the TOKEN at which numbers of a 'row', an 'other', VALUES are more or fewer than COLUMNS");
        for (int columns = 1; columns <= 4; columns++) {
            String head = "columns " + columns + ";";
            String less = " 5".repeat(columns - 1);
            String lessValues = "5,".repeat(columns - 1);
            for (String word : new String[] {"row", "other"}) {
                bad(1, head + word + less + "^;");
                good(head + word + less + " 5;");
                bad(1, head + word + less + " 5 ^5;");
                bad(1, head + word + less + " 5 ^-5;");
            }
            for (String word : new String[] {"insert ", "merge a a keep insert "}) {
                bad(1, head + word + lessValues + "^;");
                good(head + word + lessValues + "5;");
                bad(1, head + word + lessValues + "5^,5;");
            }
        }
        bad(1, "insert 1, 2 ^where a = 1;");
        bad(1, "insert 1, 2^;");
    }

    private static void faultTwoOfFiveDigits() {
        holds("2 one that can, but is too much: a NUMBER of 5 digits or more");
        good("row 9999 -9999 0000;");
        bad(2, "row ^10000 1 1;");
        bad(2, "row -^10000 1 1;");
        bad(2, "row ^00001 1 1;");
        bad(2, "other 1 2 ^99999999999999999999;");
        bad(2, "update a = ^10000;");
        bad(2, "insert 1, 2, 3 - ^10000;");
        bad(2, "delete where a < -^10000;");
        bad(2, "merge a a keep insert ^10000;");
    }

    private static void faultTwoOfColumns() {
        holds("of 'columns' not 1 to 4");
        good("columns 1;");
        good("columns 4;");
        good("columns 0004;");
        bad(2, "columns ^0;");
        bad(2, "columns ^0000;");
        bad(2, "columns ^5;");
        bad(2, "columns ^9999;");
        bad(2, "columns ^00003;");
    }

    private static void faultTwoOfTooManyRows() {
        holds("the first word of the 31st 'row'");
        String rows = "columns 1;" + "row 1;".repeat(30);
        good(rows);
        bad(2, rows + "^row 1;");
        bad(2, rows + "^row 12345 ?");
    }

    private static void faultTwoOfTooManyOthers() {
        holds("the 11th 'other'");
        String others = "columns 1;" + "other 1;".repeat(10);
        good(others);
        bad(2, others + "^other 1;");
        bad(2, others + "^other ?");
    }

    private static void faultTwoOfTooManyIndexes() {
        holds("the 4th INDEX");
        String indexes = "index a;key b;key c;";
        good(indexes);
        bad(2, indexes + "^key a;");
        bad(2, indexes + "^index a b;");
        bad(2, indexes + "^index ?");
    }

    private static void faultTwoOfTooManyStatements() {
        holds("the 9th STATEMENT");
        String statements = "merge a a keep insert 1,2,3;update a=1;delete;insert 1,2,3;".repeat(2);
        good(statements);
        good(statements + "row 1 2 3;key a;other 1 2 3;");
        bad(2, statements + "^update a = 1;");
        bad(2, statements + "^delete;");
        bad(2, statements + "^insert 1, 2, 3;");
        bad(2, statements + "^merge a a keep;");
        bad(2, statements + "row 1 2 3;^delete ?");
    }

    private static void faultThreeOfNoSuchColumn() {
        holds("3 a COLUMN that there isn't");
        String[] marked = {"index ^X;", "key a ^X;", "update ^X = 1;", "update a = 1 + ^X;", "update a = sum ^X;",
            "update a = least ^X;", "update a = most ^X;", "delete where ^X = 1;", "delete where a = ^X;",
            "merge ^X a keep;", "merge a ^X keep;", "merge a a set ^X = 1;", "merge a a set a = other ^X;",
            "insert ^X;"};
        for (String one : marked) {
            for (int columns = 2; columns <= 4; columns++) {
                String head = "columns " + columns + ";";
                String last = String.valueOf((char) ('a' + columns - 1));
                String next = String.valueOf((char) ('a' + columns));
                if (columns < 4) {
                    bad(3, head + one.replace("X", next));
                    bad(3, head + one.replace("X", "d"));
                } else {
                    bad(1, head + one.replace("X", next));
                }
                if (!one.startsWith("insert")) {
                    good(head + one.replace("^X", last));
                }
            }
        }
        bad(3, "columns 1;index ^b;");
        bad(3, "insert a, b, ^d;");
    }

    private static void faultThreeOfASecondColumn() {
        holds("the second COLUMN of an INDEX that is the first");
        bad(3, "index a ^a;");
        bad(3, "key c ^c;");
        bad(3, "columns 1;index a ^a;");
        good("index a b;index b a;");
    }

    private static void faultThreeOfAColumnSetTwice() {
        holds("a COLUMN that is SET already in these SETS");
        bad(3, "update a = 1, ^a = 1;");
        bad(3, "update a = 1, b = 2, c = 3, ^a = 4;");
        bad(3, "update a = 1, b = 2, c = 3, ^c = 4;");
        bad(3, "columns 4;update a = 1, b = 2, c = 3, d = 4, ^d = 5;");
        bad(3, "merge a a set b = 1, ^b = other b;");
        good("update a = 1;update a = 2;merge a a set a = 3;");
        good("update a = b, b = a;");
    }

    private static void faultThreeOfOther() {
        holds("'other' in what isn't a 'merge'");
        bad(3, "update a = ^other a;");
        bad(3, "update a = 1 + ^other a;");
        bad(3, "update a = 1 where ^other a = 1;");
        bad(3, "delete where a = ^other a;");
        bad(3, "insert ^other a, 1, 1;");
        bad(3, "merge a a keep;insert ^other a, 1, 1;");
        good("merge a a set a = other a insert other a, other b, 1 + other c;");
        good("other 1 2 3;");
    }

    private static void faultThreeOfAColumnInNewRows() {
        holds("a COLUMN (not behind 'other', 'sum', 'least', 'most') in VALUES of a 'merge'");
        bad(3, "merge a a keep insert ^a, 1, 1;");
        bad(3, "merge a a keep insert 1, 1, 1 + ^c;");
        bad(3, "merge a a set a = b insert ^a, 1, 1;");
        good("merge a a keep insert other a, sum b + least c, most a;");
        good("merge a a set a = b + c insert 1, 1, count;");
        good("merge a a keep;insert a, b, c;");
    }

    private static void faultFourOfColumnsTooLate() {
        holds("4 'columns' behind any other CLAUSE (a second 'columns', too)");
        good(" \n columns 2;");
        for (String clause : new String[] {"columns 3;", "row 1 2 3;", "other 1 2 3;", "key a;", "index a;", "update a = 1;",
                "delete;", "insert 1, 2, 3;", "merge a a keep;"}) {
            bad(4, clause + "^columns 3;");
            bad(4, clause + "^columns 9 ?");
        }
    }

    private static void faultFourOfAKeyAlike() {
        holds("the ';' of a 'row', a 'key' by which a KEY has two ROWS alike");
        bad(4, "key a;row 1 2 3;row 1 3 4^;");
        bad(4, "key a;key b;row 1 2 3;row 2 2 4 ^;");
        bad(4, "row 1 2 3;row 1 3 4;key a^;");
        bad(4, "row 1 2 3;row 4 4 4;row 1 2 4;index a;key b a ^;");
        good("row 1 2 3;row 1 3 4;index a;");
        good("key a b;row 1 2 3;row 1 3 4;row 2 2 4;");
        bad(4, "key a b;row 1 2 3;row 1 3 4;row 1 2 9^;");
        good("key a;other 1 1 1;other 1 1 1;");
        good("row 1 2 3;row -1 2 3;key a;");
    }
}
