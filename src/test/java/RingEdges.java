import java.util.Arrays;
import java.util.function.Supplier;

/** The edges of MADE and TRIPLES, of promises 19 and 20. */
final class RingEdges {
    private static final int NONE = TwinRows.NONE;
    private static final int LEAST = Integer.MIN_VALUE;
    private static final int MOST = Integer.MAX_VALUE;

    private RingEdges() {
    }

    static void run() {
        madeLeaves0();
        madeLeaves1();
        madeLeaves2();
        madeOrders();
        madeIsLookedAt();
        madeRefuses();
        pointsAndTriples();
        onePointIsThird();
        placesOfTriples();
        thirdByLatest();
        thirdRefusesDistances();
        thirdRefusesPlaces();
        thirdRefusesPoints();
        thirdRefusesAlike();
        thirdAheadOfAny();
    }

    private static void dueRow(int order, int... row) {
        TwinRows x = new TwinRows();
        Check.due("made(" + order + ")", x.made(order), row.length);
        Check.due("made(" + order + ")", Check.seen(x), row);
    }

    /** Puts two alike at (left + r, right - r) for each r. */
    private static void put(int[] row, int left, int right, int from, int to) {
        for (int r = from; r <= to; r++) {
            row[left + r - 1] = right - left - 2 * r;
            row[right - r - 1] = right - left - 2 * r;
        }
    }

    private static void dueWhole(int order, int[] row) {
        int[] times = new int[order + 1];
        for (int d : row) {
            times[d]++;
        }
        for (int d = 1; d <= order; d++) {
            Check.due("how often " + d + " stands in " + order, times[d], 2);
        }
    }

    private static void madeLeaves0() {
        Sentences.test(Sentences.TERMS, "MADE of an ORDER n (m from n by 4, cut, 2 or more; r goes on by 1), each the places of"
            + " two alike: n by 4 leaves 0: (4m + r, 8m - r) r 0 to 2m - 1, (m, m + 1), (m + 2 + r, 3m - 1 - r) r 0 to m - 3,"
            + " (r, 4m - 1 - r) r 1 to m - 1, (2m + 1, 6m), (2m, 4m - 1);");
        // m 2: no r from 0 to -1
        dueRow(8, 5, 1, 1, 3, 7, 5, 3, 8, 6, 4, 2, 7, 2, 4, 6, 8);
        // m 3: one r from 0 to 0: (5, 8)
        dueRow(12, 9, 7, 1, 1, 3, 5, 11, 3, 7, 9, 5, 12, 10, 8, 6, 4, 2, 11, 2, 4, 6, 8, 10, 12);
        for (int m = 2; m <= 15; m++) {
            int[] row = new int[8 * m];
            put(row, 4 * m, 8 * m, 0, 2 * m - 1);
            put(row, m, m + 1, 0, 0);
            put(row, m + 2, 3 * m - 1, 0, m - 3);
            put(row, 0, 4 * m - 1, 1, m - 1);
            put(row, 2 * m + 1, 6 * m, 0, 0);
            put(row, 2 * m, 4 * m - 1, 0, 0);
            dueRow(4 * m, row);
            dueWhole(4 * m, row);
        }
    }

    private static void madeLeaves1() {
        Sentences.test(Sentences.TERMS, "leaves 1: (4m + 2 + r, 8m + 2 - r) r 0 to 2m - 1, (r, 4m + 1 - r) r 1 to m,"
            + " (2m + 1, 6m + 2), (2m + 2, 4m + 1), (m + 1, m + 2), (m + 2 + r, 3m + 1 - r) r 1 to m - 2;");
        // m 2: no r from 1 to 0
        dueRow(9, 7, 5, 1, 1, 9, 3, 5, 7, 3, 8, 6, 4, 2, 9, 2, 4, 6, 8);
        for (int m = 2; m <= 14; m++) {
            int[] row = new int[8 * m + 2];
            put(row, 4 * m + 2, 8 * m + 2, 0, 2 * m - 1);
            put(row, 0, 4 * m + 1, 1, m);
            put(row, 2 * m + 1, 6 * m + 2, 0, 0);
            put(row, 2 * m + 2, 4 * m + 1, 0, 0);
            put(row, m + 1, m + 2, 0, 0);
            put(row, m + 2, 3 * m + 1, 1, m - 2);
            dueRow(4 * m + 1, row);
            dueWhole(4 * m + 1, row);
        }
    }

    private static void madeLeaves2() {
        Sentences.test(Sentences.TERMS, "leaves 2 (m 1 or more; a HOLE at 8m + 4): (r, 4m + 2 - r) r 1 to 2m, (2m + 1, 6m + 2),"
            + " (4m + 2, 6m + 3), (4m + 3, 8m + 5), (4m + 3 + r, 8m + 4 - r) and (5m + 2 + r, 7m + 3 - r) r 1 to m - 1,"
            + " (7m + 3, 7m + 4).");
        // m 1: no r from 1 to 0
        dueRow(6, 4, 2, 5, 2, 4, 3, 6, 5, 3, 1, 1, 0, 6);
        dueRow(10, 8, 6, 4, 2, 9, 2, 4, 6, 8, 5, 10, 7, 3, 9, 5, 3, 1, 1, 7, 0, 10);
        for (int m = 1; m <= 14; m++) {
            int[] row = new int[8 * m + 5];
            put(row, 0, 4 * m + 2, 1, 2 * m);
            put(row, 2 * m + 1, 6 * m + 2, 0, 0);
            put(row, 4 * m + 2, 6 * m + 3, 0, 0);
            put(row, 4 * m + 3, 8 * m + 5, 0, 0);
            put(row, 4 * m + 3, 8 * m + 4, 1, m - 1);
            put(row, 5 * m + 2, 7 * m + 3, 1, m - 1);
            put(row, 7 * m + 3, 7 * m + 4, 0, 0);
            Check.due("the hole", row[8 * m + 3], 0);
            dueRow(4 * m + 2, row);
            dueWhole(4 * m + 2, row);
        }
    }

    private static boolean isOrder(int order) {
        return order == 6 || order >= 8 && order <= 60 && order % 4 != 3;
    }

    private static void madeOrders() {
        Sentences.test(19, "MADE of an ORDER (6, or 8 to 60, no one that leaves 3 by 4)");
        for (int order = -10; order <= 130; order++) {
            Check.due("made(" + order + ")", new TwinRows().made(order) != NONE, isOrder(order));
        }
    }

    private static void madeIsLookedAt() {
        Sentences.test(19, "is looked at: how many places;");
        Check.due("made(6)", new TwinRows().made(6), 13);
        Check.due("made(8)", new TwinRows().made(8), 16);
        Check.due("made(9)", new TwinRows().made(9), 18);
        Check.due("made(58)", new TwinRows().made(58), 117);
        Check.due("made(60)", new TwinRows().made(60), 120);
        TwinRows x = Witness.full();
        x.made(58);
        Check.due("its last place", x.at(117), 58);
        Check.due("its hole", x.at(116), 0);
        Check.due("no place behind", x.at(118), NONE);
        Check.due("the frame stays", x.now(0), 5);
        Check.due("acts stay", x.now(5), 8);
        Check.due("the tape stays", x.now(6), 27);
        x.made(6);
        Check.due("a shorter one", Check.seen(x), 4, 2, 5, 2, 4, 3, 6, 5, 3, 1, 1, 0, 6);
        Check.due("what is gone", x.first(7), NONE);
    }

    private static void madeRefuses() {
        Sentences.test(19, "NONE: no such one.");
        for (int order : new int[] {5, 7, 11, 59, 61, 0, 1, 4, -1, -2, -6, 62, 64, 256 + 8, LEAST, LEAST + 8, MOST}) {
            Witness.dueUnchanged("made(" + order + ")", x -> x.made(order), NONE);
            Witness.dueUnchangedWithoutCells("made(" + order + ")", x -> x.made(order), NONE);
        }
    }

    private static TwinRows lookedAt(String text) {
        TwinRows x = Check.of(text);
        x.row(0);
        return x;
    }

    /** Of each two of each TRIPLE the THIRD; how many twos there were. Few calls are made on one object. */
    private static int dueTriples(String label, Supplier<TwinRows> make, int n) {
        int points = 6 * n + 1;
        boolean[][] met = new boolean[points][points];
        int twos = 0;
        for (int d = 1; d <= n; d++) {
            int place = make.get().first(d);
            for (int point = 0; point < points; point++) {
                TwinRows x = make.get();
                int[] t = {point, (point + d) % points, (point + n + place + d) % points};
                for (int i = 0; i < 3; i++) {
                    int a = t[i];
                    int b = t[(i + 1) % 3];
                    Check.due(label + " third(" + a + ", " + b + ")", x.third(a, b), t[(i + 2) % 3]);
                    Check.due(label + " third(" + b + ", " + a + ")", x.third(b, a), t[(i + 2) % 3]);
                    twos += met[a][b] ? 0 : 1;
                    met[a][b] = true;
                    met[b][a] = true;
                }
            }
        }
        return twos;
    }

    private static void pointsAndTriples() {
        Sentences.test(Sentences.TERMS, "TRIPLES of a row (MADE, or a FILLING) with DISTANCES 1 to n, each of which stands at P"
            + " and P and D: POINTS are 0 to 6 n; for each D and each POINT x the three x, x and D, x and n and P and D"
            + " (modulo 6 n and 1).");
        // 1 1: the three are x, x + 1, x + 3, modulo 7
        int[][] sevens = {{0, 1, 3}, {1, 2, 4}, {2, 3, 5}, {3, 4, 6}, {4, 5, 0}, {5, 6, 1}, {6, 0, 2}};
        TwinRows x = lookedAt("cells 2;pair 1;");
        for (int[] t : sevens) {
            for (int i = 0; i < 3; i++) {
                Check.due("third " + Arrays.toString(t), x.third(t[i], t[(i + 1) % 3]), t[(i + 2) % 3]);
                Check.due("third " + Arrays.toString(t), x.third(t[(i + 1) % 3], t[i]), t[(i + 2) % 3]);
            }
        }
        // 1 1 2 0 2, n 2: x, x + 1, x + 4; x, x + 2, x + 7, modulo 13
        TwinRows y = lookedAt("cells 5;hole 4;pair 1;pair 2;");
        Check.due("third(0, 1)", y.third(0, 1), 4);
        Check.due("third(12, 0)", y.third(12, 0), 3);
        Check.due("third(0, 2)", y.third(0, 2), 7);
        Check.due("third(12, 1)", y.third(12, 1), 6);
        Check.due("third(12, 6)", y.third(12, 6), 1);
    }

    private static void onePointIsThird() {
        Sentences.test(Sentences.TERMS, "Of two unlike POINTS the THIRD is that which lies with them in a TRIPLE");
        for (int order : new int[] {6, 8, 9, 60}) {
            int points = 6 * order + 1;
            int twos = dueTriples("made " + order, () -> {
                TwinRows x = new TwinRows();
                x.made(order);
                return x;
            }, order);
            Check.due("all twos of " + order, twos, points * (points - 1) / 2);
        }
    }

    private static void placesOfTriples() {
        Sentences.test(Sentences.TERMS, "(there is just one, if the row has places 1 to 2 n, or a HOLE at 2 n and nothing at"
            + " places behind 2 n and 1).");
        String[] texts = {
            "cells 2;pair 1;", "cells 3;hole 3;pair 1;", "cells 8;pair 1;pair 2;pair 3;pair 4;", "cells 5;hole 4;pair 1;pair 2;",
            "cells 6;hole 4;hole 6;pair 1;pair 2;", "cells 18;hole 4;hole 6;hole 7;hole 8;hole 9;hole 10;hole 11;hole 12;"
                + "hole 13;hole 14;hole 15;hole 16;hole 17;hole 18;pair 1;pair 2;", "cells 7;hole 6;pair 1;pair 2;pair 3;"
        };
        int[] orders = {1, 1, 4, 2, 2, 2, 3};
        for (int i = 0; i < texts.length; i++) {
            String text = texts[i];
            int points = 6 * orders[i] + 1;
            int twos = dueTriples(text, () -> lookedAt(text), orders[i]);
            Check.due("all twos of " + text, twos, points * (points - 1) / 2);
        }
    }

    private static void thirdByLatest() {
        Sentences.test(20, "THIRD of two POINTS by the row that was looked at last;");
        TwinRows x = Check.ofKind(0, 4);
        x.row(0);
        Check.due("by row()", x.third(0, 1), 6);
        x.row(3);
        // 3 4 2 3 2 4 1 1: 1 stands at 7
        Check.due("by row()", x.third(0, 1), 12);
        x.behind();
        Check.due("by behind()", x.third(0, 1), 6);
        x.made(8);
        // 1 stands at 2
        Check.due("by made()", x.third(0, 1), 11);
        Check.due("by rank()", Check.rankOf(x, 3, 4, 2, 3, 2, 4, 1, 1), 3);
        Check.due("by rank()", x.third(0, 1), 12);
        x.kind(2, 4);
        x.undo();
        x.pair(1, false);
        Check.due("not by the frame", x.third(0, 1), 12);
        Witness.dueUnchanged("third(0, 1)", y -> y.third(0, 1), Witness.full().third(0, 1));
        Check.due("a full one has a third", Witness.full().third(0, 1) != NONE, true);
    }

    private static void dueNoThird(String text) {
        for (int p = 0; p < 20; p++) {
            TwinRows x = lookedAt(text);
            for (int q = 0; q < 20; q++) {
                Check.due("third(" + p + ", " + q + ") of " + text, x.third(p, q), NONE);
            }
        }
    }

    private static void thirdRefusesDistances() {
        Sentences.test(20, "NONE: it has not DISTANCES 1 to n,");
        dueNoThird("");
        dueNoThird("cells 1;hole 1;");
        dueNoThird("cells 3;hole 2;pair 2;");
        dueNoThird("cells 4;pair 1;pair 3;");
        dueNoThird("cells 6;pair 2;pair 3;pair 4;");
        dueNoThird("cells 18;pair 2;pair 3;pair 4;pair 5;pair 6;pair 7;pair 8;pair 9;pair 11;");
        TwinRows x = Check.ofKind(2, 3);
        x.row(0);
        Check.due("wide", x.third(0, 1), NONE);
    }

    private static void thirdRefusesPlaces() {
        Sentences.test(20, "or other places,");
        dueNoThird("cells 3;hole 1;pair 1;");
        dueNoThird("cells 4;hole 1;hole 2;pair 1;");
        dueNoThird("cells 5;hole 2;pair 1;pair 2;");
        dueNoThird("cells 7;hole 2;pair 1;pair 2;pair 3;");
        dueNoThird("cells 6;hole 3;hole 5;pair 1;pair 2 at 4;");
        // a HOLE at 2 n, and something behind 2 n and 1
        dueNoThird("cells 6;hole 2;hole 4;pair 1;pair 2 at 1;");
        TwinRows open = Check.ofKind(3, 3);
        open.row(0);
        Check.due("open", open.third(0, 1), NONE);
        TwinRows extended = Check.of("cells 9;hole 1;pair 1;pair 2;pair 3;pair 4;");
        extended.row(0);
        Check.due("a hole first", extended.third(0, 1), NONE);
    }

    private static TwinRows ofOrder4() {
        TwinRows x = Witness.full();
        x.restore(1);
        x.row(0);
        return x;
    }

    private static void thirdRefusesPoints() {
        Sentences.test(20, "no such POINTS,");
        Check.due("the last point", ofOrder4().third(24, 0) != NONE, true);
        Check.due("the last point", ofOrder4().third(0, 24) != NONE, true);
        for (int q : new int[] {-1, 25, 26, 32, 256, LEAST, MOST}) {
            for (int p : new int[] {0, 1, 24, q - 1}) {
                Witness.dueLeft("third(" + p + ", " + q + ")", RingEdges::ofOrder4, x -> x.third(p, q), NONE);
                Witness.dueLeft("third(" + q + ", " + p + ")", RingEdges::ofOrder4, x -> x.third(q, p), NONE);
            }
        }
        TwinRows x = new TwinRows();
        x.made(60);
        Check.due("third(360, 359)", x.third(360, 359) != NONE, true);
        Check.due("third(361, 359)", x.third(361, 359), NONE);
        Check.due("third(359, 361)", x.third(359, 361), NONE);
    }

    private static void thirdRefusesAlike() {
        Sentences.test(20, "alike ones,");
        for (int p : new int[] {0, 1, 12, 24, 25, -1, LEAST, MOST}) {
            Witness.dueLeft("third(" + p + ", " + p + ")", RingEdges::ofOrder4, x -> x.third(p, p), NONE);
        }
    }

    private static void thirdAheadOfAny() {
        Sentences.test(20, "or ahead of any.");
        Witness.dueUnchangedWithoutCells("third(0, 1)", x -> x.third(0, 1), NONE);
        TwinRows x = Check.ofKind(0, 4);
        Check.due("a frame alone", x.third(0, 1), NONE);
        Check.rowOrThrows(x, 6);
        x.made(7);
        Check.rankOf(x, 1, 1);
        x.behind();
        x.ways();
        Check.due("refused ones", x.third(0, 1), NONE);
    }
}
