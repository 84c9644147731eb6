/** Promises 19 and 20: rows of great orders, and the TRIPLES of a row. */
public final class RingsTest {
    private static final int NONE = TwinRows.NONE;
    private static final int LEAST = Integer.MIN_VALUE;
    private static final int MOST = Integer.MAX_VALUE;

    public static void main(String[] args) {
        promise19Made();
        promise19MadeByHand();
        promise20Third();
        promise20OfFillings();
        promise20NoRing();
        Check.finish();
    }

    private static boolean isOrder(int n) {
        return n == 6 || n >= 8 && n <= 60 && n % 4 != 3;
    }

    private static void promise19Made() {
        for (int n = -5; n <= 130; n++) {
            TwinRows x = Check.ofKind(0, 4);
            x.row(0);
            int places = 2 * n + (n % 4 == 2 ? 1 : 0);
            Check.due("made(" + n + ")", x.made(n), isOrder(n) ? places : NONE);
            if (!isOrder(n)) {
                Check.due("the row stays", Check.seen(x), 1, 1, 3, 4, 2, 3, 2, 4);
                continue;
            }
            Check.due("places", Check.seen(x).length, places);
            int holes = 0;
            for (int place = 1; place <= places; place++) {
                holes += x.at(place) == 0 ? 1 : 0;
            }
            Check.due("holes of " + n, holes, n % 4 == 2 ? 1 : 0);
            Check.due("the hole of " + n, x.at(2 * n) == 0, n % 4 == 2);
            for (int d = 1; d <= n; d++) {
                int first = x.first(d);
                Check.due(d + " of " + n + " stands first", x.at(first), d);
                Check.due(d + " of " + n + " stands again", x.at(first + d), d);
            }
            Check.due("the frame stays", x.now(0), 8);
            Check.due("it is no act", x.now(5), 1);
        }
        TwinRows x = new TwinRows();
        Check.due("made(least)", x.made(LEAST), NONE);
        Check.due("made(most)", x.made(MOST), NONE);
    }

    private static void dueRow(int n, int... row) {
        TwinRows x = new TwinRows();
        x.made(n);
        Check.due("made(" + n + ")", Check.seen(x), row);
    }

    /** Told by the document's pairs of places with m 1 and 2. */
    private static void promise19MadeByHand() {
        dueRow(6, 4, 2, 5, 2, 4, 3, 6, 5, 3, 1, 1, 0, 6);
        // (8,16) (9,15) (10,14) (11,13); (2,3); (1,6); (5,12); (4,7)
        dueRow(8, 5, 1, 1, 3, 7, 5, 3, 8, 6, 4, 2, 7, 2, 4, 6, 8);
        // (10,18) (11,17) (12,16) (13,15); (1,8) (2,7); (5,14); (6,9); (3,4)
        dueRow(9, 7, 5, 1, 1, 9, 3, 5, 7, 3, 8, 6, 4, 2, 9, 2, 4, 6, 8);
        // (1,9) (2,8) (3,7) (4,6); (5,14); (10,15); (11,21); (12,19); (13,16); (17,18)
        dueRow(10, 8, 6, 4, 2, 9, 2, 4, 6, 8, 5, 10, 7, 3, 9, 5, 3, 1, 1, 7, 0, 10);
    }

    /** Lists all TRIPLES and asks for each two of each; every two POINTS must have been met just once. */
    private static void dueRing(String label, TwinRows x, int n) {
        int points = 6 * n + 1;
        boolean[][] met = new boolean[points][points];
        int twice = 0;
        for (int d = 1; d <= n; d++) {
            int far = n + x.first(d) + d;
            for (int point = 0; point < points; point++) {
                int[] t = {point, (point + d) % points, (point + far) % points};
                for (int i = 0; i < 3; i++) {
                    int a = t[i];
                    int b = t[(i + 1) % 3];
                    int c = t[(i + 2) % 3];
                    Check.due(label + " third(" + a + ", " + b + ")", x.third(a, b), c);
                    Check.due(label + " third(" + b + ", " + a + ")", x.third(b, a), c);
                    twice += met[a][b] ? 1 : 0;
                    met[a][b] = true;
                    met[b][a] = true;
                }
            }
        }
        Check.due(label + ": twice", twice, 0);
        for (int p = 0; p < points; p += 5) {
            Check.due(label + ": alike", x.third(p, p), NONE);
            for (int q : new int[] {-1, points, LEAST, MOST}) {
                Check.due(label + ": no such point", x.third(p, q), NONE);
                Check.due(label + ": no such point", x.third(q, p), NONE);
            }
        }
    }

    private static void promise20Third() {
        for (int n : new int[] {6, 8, 9, 10, 12, 13, 14, 17, 21, 26, 33, 48, 57, 58, 60}) {
            TwinRows x = new TwinRows();
            Check.due("ahead of any", x.third(0, 1), NONE);
            x.made(n);
            dueRing("made " + n, x, n);
        }
    }

    private static void promise20OfFillings() {
        int[][] kinds = {{0, 1}, {0, 4}, {0, 5}, {0, 8}, {0, 9}, {1, 2}, {1, 3}, {1, 6}, {1, 7}};
        for (int[] kind : kinds) {
            TwinRows x = Check.ofKind(kind[0], kind[1]);
            int ways = x.ways();
            for (int rank = 0; rank < ways; rank += 1 + ways / 3) {
                x.row(rank);
                dueRing("kind " + kind[0] + " of " + kind[1], x, kind[1]);
            }
        }
        // holes behind all numbers are nothing
        TwinRows x = Check.of("cells 4;hole 3;hole 4;pair 1;");
        x.row(0);
        dueRing("holes behind", x, 1);
        TwinRows y = Check.of("cells 7;hole 4;hole 6;hole 7;pair 1;pair 2;");
        y.row(0);
        dueRing("hooked, holes behind", y, 2);
    }

    private static void dueNoRing(String text) {
        TwinRows x = Check.of(text);
        x.row(0);
        for (int p = 0; p < 20; p++) {
            for (int q = 0; q < 20; q++) {
                Check.due("no ring: " + text, x.third(p, q), NONE);
            }
        }
    }

    private static void promise20NoRing() {
        dueNoRing("");
        dueNoRing("cells 2;hole 1;hole 2;");
        dueNoRing("cells 3;hole 1;pair 1;");
        dueNoRing("cells 5;hole 1;hole 2;hole 3;pair 1;");
        dueNoRing("cells 5;hole 2;pair 1;pair 2;");
        dueNoRing("cells 6;pair 2;pair 3;pair 4;");
        dueNoRing("cells 3;hole 2;pair 2;");
        dueNoRing("cells 4;pair 1;pair 3;");
        dueNoRing("cells 6;hole 4;hole 5;pair 1;pair 3 at 3;");
        TwinRows open = Check.ofKind(3, 4);
        open.row(0);
        Check.due("a hole in the midst", open.third(0, 1), NONE);
        TwinRows x = Check.ofKind(0, 4);
        x.row(0);
        x.kind(3, 4);
        Check.due("by the row, not by the frame", x.third(0, 1), 6);
    }
}
