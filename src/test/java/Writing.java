import java.nio.charset.StandardCharsets;

/** Feeds texts, and counts answers that are not as due. */
final class Writing {
    /** A call that may throw. */
    interface Call {
        long go();
    }

    private static int wrong = 0;
    private static int asked = 0;

    private Writing() {
    }

    /** Feeds a text, filled up to twenties, and makes it the table. */
    static int tell(BulkWriter writer, String text) {
        byte[] bytes = text.getBytes(StandardCharsets.ISO_8859_1);
        for (int from = 0; from < bytes.length; from += 20) {
            writer.feed(packed(bytes, from), packed(bytes, from + 4), packed(bytes, from + 8),
                    packed(bytes, from + 12), packed(bytes, from + 16));
        }
        return writer.table(bytes.length);
    }

    static int packed(byte[] bytes, int from) {
        int number = 0;
        for (int i = from; i < from + 4; i++) {
            number = number << 8 | (i < bytes.length ? bytes[i] & 255 : '?');
        }
        return number;
    }

    static BulkWriter of(String text) {
        BulkWriter writer = new BulkWriter();
        due("table of " + text, tell(writer, text), 0);
        return writer;
    }

    static void due(String what, long got, long want) {
        asked++;
        if (got != want) {
            wrong++;
            System.out.println(what + " answered " + got + ", due is " + want);
        }
    }

    static void dueMissing(String what, Call call) {
        dueThrow(what, "NoSuchElementException", call);
    }

    static void dueIllegal(String what, Call call) {
        dueThrow(what, "IllegalArgumentException", call);
    }

    /** The class itself is due, not one below it. */
    private static void dueThrow(String what, String name, Call call) {
        String got;
        try {
            got = "answered " + call.go();
        } catch (RuntimeException e) {
            got = e.getClass().getSimpleName();
        }
        asked++;
        if (!got.equals(name)) {
            wrong++;
            System.out.println(what + ": " + got + ", due is " + name);
        }
    }

    static void row(String what, BulkWriter writer, int place, int... want) {
        for (int column = 0; column < want.length; column++) {
            due(what + " cell(" + place + ", " + column + ")", writer.cell(place, column), want[column]);
        }
    }

    /** Prints how it went and leaves with 1 if an answer was wrong. */
    static void end(String name) {
        System.out.println(name + ": " + asked + " answers, " + wrong + " not as due");
        if (wrong != 0) {
            System.exit(1);
        }
    }
}
