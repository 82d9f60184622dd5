import java.util.Random;

/** Texts and their FAULTS: the kind, and the place at the '^' in the text. */
public final class FaultTests {
    // Some twice: they go on where most others can't stand.
    private static final String[] TOKENS = {"columns", "row", "other", "key", "index", "update", "delete", "insert", "merge", "set",
        "keep", "sum", "least", "most", "count", "where", "and", "a", "b", "c", "d", "e", "rows", "1", "2", "0", "9999", "12345",
        "00001", ";", ",", "+", "-", "*", "<", "=", ">", "?", "(", "a", "b", "1", ";", ",", ";", "=", "1", "3", "where", "set"};

    public static void main(String[] args) {
        tokens();
        clauses();
        numbers();
        tooMuch();
        columns();
        keys();
        statements();
        longTexts();
        textsTokenByToken();
        Writing.end("FaultTests");
    }

    /** The fault's place is where the mark stands, which is no part of the text. */
    private static void bad(int kind, String marked) {
        int place = marked.indexOf('^');
        String text = marked.substring(0, place) + marked.substring(place + 1);
        BulkWriter writer = new BulkWriter();
        Writing.due("table of " + marked, Writing.tell(writer, text), kind);
        Writing.due("fault of " + marked, writer.fault(), place);
        Writing.due("refused texts by " + marked, writer.count(10), 1);
    }

    private static void good(String text) {
        BulkWriter writer = Writing.of(text);
        Writing.due("fault of " + text, writer.fault(), -1);
        Writing.due("refused texts by " + text, writer.count(10), 0);
    }

    private static void tokens() {
        good("");
        good(" \n ");
        good("row1 2 3;row-1-2-3;");
        good("columns\n2;row 1\n2;");
        bad(1, "^\trow 1 2 3;");
        bad(1, "row 1^\r2 3;");
        bad(1, "row 1 ^\u00e9 3;");
        bad(1, "^\u0000");
        bad(1, "^Row 1 2 3;");
        bad(1, "^rows 1 2 3;");
        bad(1, "^rowrow 1 2 3;");
        bad(1, "update a = ^aa;");
        bad(1, "update ^e = 1;");
        bad(1, "update a = ^(1);");
        bad(1, "row 1 2 3;^(");
        bad(1, "row 1 2 ^x3;");
        bad(1, "index ^az;");
        bad(1, "index ^aza;");
    }

    private static void clauses() {
        bad(1, "^;");
        bad(1, "^5;");
        bad(1, "^a;");
        bad(1, "^where a = 1;");
        bad(1, "row 1 2 3;^;");
        bad(1, "row 1 2 3 ^");
        bad(1, "row 1 2 3^");
        bad(1, "row^");
        bad(1, "row 1 2 3   \n^");
        bad(1, "delete ^row 1 2 3;");
        bad(1, "columns^");
        bad(1, "columns 2 ^2;");
        bad(1, "columns ^a;");
        bad(1, "columns ^-1;");
    }

    private static void numbers() {
        good("columns 1;row 9999;row -9999;row 0000;row -0;");
        bad(1, "row 1 2^;");
        bad(1, "row^;");
        bad(1, "row 1 2 3 ^4;");
        bad(1, "row 1 2 3 ^-4;");
        bad(1, "row 1 2 3 ^44444;");
        bad(1, "row 1 2 - ^- 3;");
        bad(1, "row 1 2 -^;");
        bad(1, "row 1 ^+2 3;");
        bad(1, "row 1^, 2, 3;");
        bad(1, "row ^a 1 2;");
        bad(1, "other 1 2^;");
        bad(1, "other 1 2 3 ^4;");
        bad(1, "columns 4;row 1 2 3^;");
        bad(1, "columns 1;other 1 ^2;");
        bad(2, "row 1 2 ^12345;");
        bad(2, "row 1 2 -^12345;");
        bad(2, "row 1 ^00000 1 2 3 4;");
        bad(2, "other ^123456789012345678901234567890;");
        bad(2, "update a = ^10000;");
        bad(1, "update a ^10000;");
        bad(1, "^10000");
    }

    private static void tooMuch() {
        good("columns 1;");
        good("columns 4;");
        good("columns 0004;");
        bad(2, "columns ^0;");
        bad(2, "columns ^5;");
        bad(2, "columns ^12345;");
        bad(2, "columns ^00001;");
        good("columns 1;" + "row 1;".repeat(30));
        bad(2, "columns 1;" + "row 1;".repeat(30) + "^row 1;");
        bad(2, "columns 1;" + "row 1;".repeat(30) + "^row x");
        good("columns 1;" + "other 1;".repeat(10));
        bad(2, "columns 1;" + "other 1;".repeat(10) + "^other 1;");
        good("index a;key b;index a;");
        bad(2, "index a;key b;index a;^key c;");
        bad(2, "index a;key b;index a;^index c;");
        good("delete;".repeat(8));
        bad(2, "delete;".repeat(8) + "^delete;");
        bad(2, "delete;".repeat(8) + "^update x");
        bad(2, "delete;".repeat(8) + "^insert 1;");
        bad(2, "delete;".repeat(8) + "^merge a a keep;");
        bad(4, "row 1 2 3;^columns 2;");
        bad(4, "columns 2;^columns 2;");
        bad(4, "delete;^columns 9");
    }

    private static void columns() {
        bad(3, "index ^d;");
        bad(3, "columns 1;key ^b;");
        bad(3, "index a ^d;");
        bad(3, "index a ^a;");
        bad(3, "columns 1;index a ^a;");
        bad(1, "index a b ^c;");
        bad(1, "index^;");
        bad(1, "index ^1;");
        bad(1, "index a^, b;");
        bad(1, "index ^e;");
        good("columns 4;index d a;key a d;");
        bad(3, "update ^d = 1;");
        bad(3, "update a = ^d;");
        bad(3, "update a = sum ^d;");
        bad(3, "update a = 1, ^a = 2;");
        bad(3, "update a = 1, b = 2, ^a = 2;");
        bad(3, "delete where ^d = 1;");
        bad(3, "merge ^d a keep;");
        bad(3, "merge a ^d keep;");
        bad(3, "merge a a set a = other ^d;");
        bad(3, "merge a a set a = 1, ^a = 2;");
        bad(3, "update a = ^other a;");
        bad(3, "update a = ^other 5;");
        bad(3, "delete where a = ^other a;");
        bad(3, "insert 1, 2, ^other a;");
        bad(3, "merge a a keep insert ^a, 2, 3;");
        bad(3, "merge a a keep insert 1, 2, 3 + ^b;");
        bad(3, "merge a a keep insert 1, 2, ^d;");
        good("merge a a keep insert other a, sum b, count + least c - most a * 5;");
        good("merge a b set c = c + other a * sum b insert 1, 2, -3;");
    }

    private static void keys() {
        good("row 1 2 3;row 1 2 4;index a;");
        bad(4, "row 1 2 3;row 1 2 4;key a^;");
        bad(4, "key a;row 1 2 3;row 1 3 4^;row 2 2 2;");
        good("key a b;row 1 2 3;row 1 3 4;");
        bad(4, "key a b;row 1 2 3;row 1 3 4;row 1 2 9^;");
        bad(4, "row 1 2 3;row 1 2 4;key c;key b a^;");
        bad(1, "key a;row 1 2 3;row 1 3^;");
        bad(1, "row 1 2 3;row 1 2 4;key a^");
        good("key a;other 1 1 1;other 1 1 1;");
    }

    private static void statements() {
        good("update a = 1, b = a - - 1, c = a--1;");
        bad(1, "update^;");
        bad(1, "update a^;");
        bad(1, "update a =^;");
        bad(1, "update a = 1,^;");
        bad(1, "update a = 1 +^;");
        bad(1, "update a = 1 ^2;");
        bad(1, "update a = ^+ 1;");
        bad(1, "update a = - ^a;");
        bad(1, "update a = sum^;");
        bad(1, "update a = sum ^5;");
        bad(1, "update a = count ^a;");
        bad(1, "update a = 1 where^;");
        bad(1, "update a = 1 where a^;");
        bad(1, "update a = 1 where a <^;");
        bad(1, "update a = 1 where a < ^= 2;");
        bad(1, "update a = 1 where a < 2 ^, b < 1;");
        bad(1, "update a = 1 where a < 2 and^;");
        bad(1, "update a = 1 where a < 2 ^where b < 1;");
        bad(1, "update a = 1 ^and b < 1;");
        bad(1, "delete ^a;");
        bad(1, "insert^;");
        bad(1, "insert 1, 2^;");
        bad(1, "insert 1, 2^;row x;");
        bad(1, "insert 1, 2^;columns 2;");
        bad(1, "insert 1, 2 ^where a = 1;");
        bad(1, "insert 1, 2, 3^, 4;");
        bad(1, "insert 1 ^2 3;");
        bad(1, "merge^;");
        bad(1, "merge a ^keep;");
        bad(1, "merge a a^;");
        bad(1, "merge a a ^update a = 1;");
        bad(1, "merge a a set ^insert 1, 2, 3;");
        bad(1, "merge a a keep ^where a = 1;");
        bad(1, "merge a a delete ^where a = 1;");
        bad(1, "merge a a keep insert 1, 2^;");
        bad(1, "merge a a keep insert 1, 2, 3^, 4;");
        bad(1, "merge a a keep insert 1, 2, 3 ^where a = 1;");
        bad(1, "merge a a keep insert 1, 2, other^;");
        bad(1, "merge a a keep ^set a = 1;");
        good("delete where a < 1 and b = 2 and c > 3 and 1 < a and count = sum a;");
    }

    /** Texts of just 900 bytes, of as many TOKENS and ATOMS as there can be. */
    private static void longTexts() {
        bad(1, "^" + ";".repeat(900));
        bad(1, "^" + "(".repeat(900));
        bad(1, " ".repeat(899) + "^(");
        bad(1, "^" + "9".repeat(900));
        bad(1, "^" + "z".repeat(900));
        bad(1, "columns 1;update a=" + "1+".repeat(440) + "1^");
        bad(2, "columns 1;row -" + "^" + "5".repeat(885));
        BulkWriter sums = Writing.of("columns 1;row 7; " + "update a=1" + "+1".repeat(436) + ";");
        Writing.due("a value of 437 atoms", sums.run(0), 1);
        Writing.due("a value of 437 atoms", sums.cell(0, 0), 437);
        String tests = "delete where a=7" + "and a=7".repeat(122);
        BulkWriter many = Writing.of("columns 1;row 7;" + tests + "and a<7;");
        Writing.due("123 tests and one that fails", many.right(0, 0), 0);
        BulkWriter more = Writing.of("columns 1;row 7;" + tests + "and a<8;");
        Writing.due("124 tests that hold", more.right(0, 0), 1);
    }

    /** The first FAULT is at the TOKEN that came last, if the text ahead of it only ended too soon, whatever comes behind. */
    private static void textsTokenByToken() {
        Random random = new Random(7);
        for (int walk = 0; walk < 200; walk++) {
            String text = "";
            for (int i = 0; i < 200 && text.length() < 850; i++) {
                String token = TOKENS[random.nextInt(TOKENS.length)];
                String next = text + (random.nextBoolean() ? " " : "\n") + token;
                BulkWriter writer = new BulkWriter();
                int kind = Writing.tell(writer, next);
                if (kind == 0 || kind == 1 && writer.fault() == next.length()) {
                    text = next;
                    continue;
                }
                Writing.due("fault of " + next, writer.fault(), next.length() - token.length());
                String more = next + " " + TOKENS[random.nextInt(TOKENS.length)];
                BulkWriter behind = new BulkWriter();
                Writing.due("table of " + more, Writing.tell(behind, more), kind);
                Writing.due("fault of " + more, behind.fault(), writer.fault());
            }
        }
    }
}
