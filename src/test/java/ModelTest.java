import java.nio.charset.StandardCharsets;
import java.util.Arrays;
import java.util.Random;

/** Runs of 512 calls on the class and on the plain model side by side: all answers must be the same. */
public final class ModelTest {
    private static final int RUNS = 400;
    private static final int CALLS = 512;
    private static final int[] ODD_NUMBERS = {
        Integer.MIN_VALUE, Integer.MIN_VALUE + 1, -33, -2, -1, 0, 1, 31, 32, 33, 63, 64, 340, 361, 512, Integer.MAX_VALUE - 1,
        Integer.MAX_VALUE
    };

    private final Random random;
    private final TwinRows x = new TwinRows();
    private final PlainModel y = new PlainModel();
    private final int mostOrder;
    private String label = "";

    private ModelTest(int run) {
        random = new Random(run);
        mostOrder = run % 40 == 0 ? 9 : run % 10 == 0 ? 8 : 7;
    }

    public static void main(String[] args) {
        for (int run = 0; run < RUNS && !Check.anyWrong(); run++) {
            ModelTest test = new ModelTest(run);
            for (int call = 1; call <= CALLS && !Check.anyWrong(); call++) {
                test.label = "run " + run + ", call " + call + ": ";
                test.anyCall();
                test.compareFrames();
            }
        }
        Check.finish();
    }

    /** Mostly from 0 to most, at times any number. */
    private int number(int most) {
        return random.nextInt(25) == 0 ? ODD_NUMBERS[random.nextInt(ODD_NUMBERS.length)] : random.nextInt(most + 1);
    }

    private void due(String call, int got, int want) {
        Check.due(label + call, got, want);
    }

    private void due(String call, boolean got, boolean want) {
        Check.due(label + call, got, want);
    }

    private void compareFrames() {
        for (int what = 0; what <= 6; what++) {
            due("now(" + what + ")", x.now(what), y.now(what));
        }
    }

    private void anyCall() {
        int choice = random.nextInt(100);
        if (choice < 30) {
            textCall(choice);
        } else if (choice < 65) {
            actCall();
        } else {
            askCall();
        }
    }

    private void textCall(int choice) {
        if (choice < 14) {
            tell(FrameTexts.any(random).getBytes(StandardCharsets.ISO_8859_1));
            due("frame", x.frame(), y.frame());
            due("fault", x.fault(), y.fault());
        } else if (choice < 20) {
            rankCall();
        } else if (choice < 24) {
            int n = number(340);
            due("end(" + n + ")", x.end(n), y.end(n));
        } else {
            int a = random.nextInt();
            due("feed", x.feed(a, a + 1, -a, a * 3, ~a), y.feed(a, a + 1, -a, a * 3, ~a));
        }
    }

    private void tell(byte[] bytes) {
        if (random.nextInt(20) != 0) {
            due("end(0)", x.end(0), y.end(0));
        }
        int length = x.now(6) + bytes.length;
        byte[] padded = Arrays.copyOf(bytes, (bytes.length + 19) / 20 * 20);
        for (int i = 0; i < padded.length; i += 20) {
            int[] n = new int[5];
            for (int k = 0; k < 5; k++) {
                n[k] = Check.number(padded, i + 4 * k);
            }
            due("feed", x.feed(n[0], n[1], n[2], n[3], n[4]), y.feed(n[0], n[1], n[2], n[3], n[4]));
        }
        due("end(" + length + ")", x.end(length), y.end(length));
    }

    /** Tells a row that is a FILLING, or nearly one. */
    private void rankCall() {
        int ways = y.ways();
        byte[] row = new byte[y.now(0)];
        if (ways > 0) {
            int rank = random.nextInt(ways);
            due("row(" + rank + ")", Check.rowOrThrows(x, rank), y.row(rank));
            for (int i = 0; i < row.length; i++) {
                row[i] = (byte) y.at(i + 1);
            }
        }
        if (row.length > 0 && random.nextInt(3) == 0) {
            row[random.nextInt(row.length)] = (byte) number(18);
        }
        if (random.nextInt(8) == 0) {
            row = Arrays.copyOf(row, Math.max(0, row.length + random.nextInt(3) - 1));
        }
        tell(row);
        due("rank", x.rank(), y.rank());
        compareRows();
    }

    private void compareRows() {
        for (int place = 0; place <= 122; place++) {
            due("at(" + place + ")", x.at(place), y.at(place));
        }
        for (int d = 0; d <= 61; d++) {
            due("first(" + d + ")", x.first(d), y.first(d));
        }
    }

    private void actCall() {
        int d = number(16);
        int place = number(19);
        boolean is = random.nextBoolean();
        switch (random.nextInt(9)) {
            case 0: {
                int kind = number(4);
                int order = 1 + random.nextInt(mostOrder);
                order = random.nextInt(10) == 0 && mostOrder == 9 ? number(11) : order;
                due("kind(" + kind + ", " + order + ")", x.kind(kind, order), y.kind(kind, order));
                break;
            }
            case 1:
            case 2:
                due("hole(" + place + ", " + is + ")", x.hole(place, is), y.hole(place, is));
                break;
            case 3:
                due("pair(" + d + ", " + is + ")", x.pair(d, is), y.pair(d, is));
                break;
            case 4:
            case 5:
                due("pin(" + d + ", " + place + ")", x.pin(d, place), y.pin(d, place));
                break;
            case 6: {
                int n = random.nextInt(3) == 0 ? number(61) : 1 + random.nextInt(3);
                int seed = random.nextInt();
                due("drawn(" + n + ", " + seed + ")", x.drawn(n, seed), y.drawn(n, seed));
                break;
            }
            case 7:
                due("undo", x.undo(), y.undo());
                break;
            default: {
                int k = number(2);
                if (is) {
                    due("image(" + k + ")", x.image(k), y.image(k));
                } else {
                    due("restore(" + k + ")", x.restore(k), y.restore(k));
                }
                break;
            }
        }
    }

    private void askCall() {
        int d = number(16);
        int place = number(19);
        switch (random.nextInt(11)) {
            case 0:
                due("ways", x.ways(), y.ways());
                break;
            case 1: {
                int rank = number(Math.max(y.ways(), 3));
                due("row(" + rank + ")", Check.rowOrThrows(x, rank), y.row(rank));
                compareRows();
                break;
            }
            case 2:
                due("behind", x.behind(), y.behind());
                compareRows();
                break;
            case 3:
                due("standing(" + d + ", " + place + ")", x.standing(d, place), y.standing(d, place));
                break;
            case 4:
                due("may(" + d + ")", x.may(d), y.may(d));
                break;
            case 5:
                due("sure", x.sure(), y.sure());
                break;
            case 6: {
                int n = number(8);
                due("extended(" + n + ", " + place + ")", x.extended(n, place), y.extended(n, place));
                break;
            }
            case 7: {
                int order = number(62);
                due("made(" + order + ")", x.made(order), y.made(order));
                compareRows();
                break;
            }
            case 8:
                due("pinned(" + d + ")", x.pinned(d), y.pinned(d));
                break;
            case 9: {
                int p = number(60);
                int q = number(360);
                due("third(" + p + ", " + q + ")", x.third(p, q), y.third(p, q));
                break;
            }
            default: {
                int what = number(8);
                due("at(" + place + ")", x.at(place), y.at(place));
                due("first(" + d + ")", x.first(d), y.first(d));
                due("now(" + what + ")", x.now(what), y.now(what));
                break;
            }
        }
    }
}
