import java.nio.charset.StandardCharsets;
import java.util.Arrays;
import java.util.NoSuchElementException;

/** What the tests share: counting wrong answers, telling texts to the tape, reading rows back. */
final class Check {
    static final int THROWS = Integer.MIN_VALUE;

    private static int wrong = 0;
    private static int asked = 0;
    private static String about = "";

    private Check() {
    }

    /** What the answers that follow are about: it is told ahead of each wrong one. */
    static void about(String what) {
        about = what + "\n    ";
    }

    static void due(String call, long got, long want) {
        asked++;
        if (got != want) {
            fail(call + " answered " + got + ", due is " + want);
        }
    }

    static void fail(String what) {
        wrong++;
        if (wrong <= 40) {
            System.out.println(about + what);
        }
    }

    static void due(String call, boolean got, boolean want) {
        due(call, got ? 1 : 0, want ? 1 : 0);
    }

    static void due(String call, int[] got, int... want) {
        asked++;
        if (!Arrays.equals(got, want)) {
            fail(call + " answered " + Arrays.toString(got) + ", due is " + Arrays.toString(want));
        }
    }

    static boolean anyWrong() {
        return wrong > 0;
    }

    static void finish() {
        System.out.println(wrong == 0 ? asked + " answers are as due" : wrong + " of " + asked + " are not as due");
        if (wrong != 0) {
            System.exit(1);
        }
    }

    static void tell(TwinRows x, String text) {
        tell(x, text.getBytes(StandardCharsets.ISO_8859_1));
    }

    /** Puts bytes behind what the tape has. */
    static void tell(TwinRows x, byte[] bytes) {
        int before = x.now(6);
        byte[] padded = Arrays.copyOf(bytes, (bytes.length + 19) / 20 * 20);
        for (int i = 0; i < padded.length; i += 20) {
            x.feed(number(padded, i), number(padded, i + 4), number(padded, i + 8), number(padded, i + 12),
                number(padded, i + 16));
        }
        due("end behind a text", x.end(before + bytes.length), true);
    }

    static int number(byte[] bytes, int i) {
        return (bytes[i] & 255) << 24 | (bytes[i + 1] & 255) << 16 | (bytes[i + 2] & 255) << 8 | bytes[i + 3] & 255;
    }

    static TwinRows of(String text) {
        TwinRows x = new TwinRows();
        tell(x, text);
        due("fault in " + text, x.frame() < 0, false);
        return x;
    }

    static TwinRows ofKind(int kind, int order) {
        TwinRows x = new TwinRows();
        due("kind " + kind + " of " + order, x.kind(kind, order) > 0, true);
        return x;
    }

    /** What frame() answers to a text, and the fault, on an object that has a FRAME already; a fault leaves it. */
    static void dueFault(String text, int place, int fault) {
        TwinRows x = ofKind(0, 1);
        tell(x, text);
        due("frame of \"" + text + "\"", x.frame(), -1 - place);
        due("fault of \"" + text + "\"", x.fault(), fault);
        due("tape behind a fault", x.now(6), 0);
        due("cells behind a fault", x.now(0), 2);
        due("pairs behind a fault", x.now(2), 1);
        due("acts behind a fault", x.now(5), 1);
    }

    static int rowOrThrows(TwinRows x, int rank) {
        try {
            return x.row(rank);
        } catch (NoSuchElementException e) {
            return THROWS;
        }
    }

    /** The row that was looked at last. */
    static int[] seen(TwinRows x) {
        int places = 0;
        while (x.at(places + 1) != TwinRows.NONE) {
            places++;
        }
        int[] row = new int[places];
        for (int i = 0; i < places; i++) {
            row[i] = x.at(i + 1);
        }
        return row;
    }

    static int rankOf(TwinRows x, int... row) {
        byte[] bytes = new byte[row.length];
        for (int i = 0; i < row.length; i++) {
            bytes[i] = (byte) row[i];
        }
        tell(x, bytes);
        return x.rank();
    }
}
