import java.nio.charset.StandardCharsets;

/** What the tests of the project share: answers that are due, and texts laid on the tape. */
final class Check {
    /** Whatever is due stands under it. */
    static String heading = "";

    private static final int SHOWN = 40;
    private static int wrong = 0;
    private static int asked = 0;

    private Check() {
    }

    static void due(String call, long got, long want) {
        asked++;
        if (got != want) {
            wrong++;
            if (wrong <= SHOWN) {
                System.out.println(heading + call + " answered " + got + ", due is " + want);
            }
        }
    }

    static void due(String call, boolean got, boolean want) {
        due(call, got ? 1 : 0, want ? 1 : 0);
    }

    /** The text alone is on the tape then. */
    static void tape(PromiseValley x, String text) {
        x.end(0);
        byte[] bytes = text.getBytes(StandardCharsets.ISO_8859_1);
        int[] row = new int[(bytes.length + 19) / 20 * 5];
        for (int i = 0; i < bytes.length; i++) {
            row[i / 4] |= (bytes[i] & 255) << (24 - 8 * (i % 4));
        }
        for (int i = 0; i < row.length; i += 5) {
            x.feed(row[i], row[i + 1], row[i + 2], row[i + 3], row[i + 4]);
        }
        due("end(" + bytes.length + ") of a text", x.end(bytes.length), bytes.length);
    }

    static int tell(PromiseValley x, int sort, int at, String text) {
        tape(x, text);
        return x.text(sort, at);
    }

    /** Told as a further text, which is due to be without FAULT and to get the number. */
    static void told(PromiseValley x, int sort, String text, int number) {
        due("text " + text, tell(x, sort, -1, text), number);
        due("fault(0) of " + text, x.fault(0), 0);
        due("fault(1) of " + text, x.fault(1), -1);
    }

    /** The text is due to be refused with the FAULT at the place. */
    static void refused(int sort, String text, int fault, int place) {
        PromiseValley x = new PromiseValley();
        due("text " + text, tell(x, sort, -1, text), -1);
        due("fault(0) of " + text, x.fault(0), fault);
        due("fault(1) of " + text, x.fault(1), place);
        due("count of " + text, x.count(sort), 0);
    }

    static String times(int n, String text) {
        StringBuilder all = new StringBuilder();
        for (int i = 0; i < n; i++) {
            all.append(text);
        }
        return all.toString();
    }

    static void finish() {
        System.out.println(wrong == 0 ? asked + " answers are as due" : wrong + " answers are not as due");
        if (wrong != 0) {
            System.exit(1);
        }
    }
}
