import java.util.Arrays;

/** Promises 9 to 18: how many FILLINGS, the row of a RANK, the RANK of a row, where PAIRS may stand. */
public final class FillingsTest {
    private static final int NONE = TwinRows.NONE;
    private static final int LEAST = Integer.MIN_VALUE;
    private static final int MOST = Integer.MAX_VALUE;

    public static void main(String[] args) {
        promise9Ways();
        promise10Row();
        promise10RowsInOrder();
        promise10RowWithoutCells();
        promise11At();
        promise12First();
        promise13Rank();
        promise14Behind();
        promise14BehindOfOtherFrames();
        promise15Standing();
        promise16May();
        promise17Sure();
        promise18Extended();
        mostCells();
        mostFillings();
        Check.finish();
    }

    /** Numbers that were counted apart, pair by pair (plain ones are Skolem's, wide ones Langford's). */
    private static void promise9Ways() {
        int[] plain = {1, 0, 0, 6, 10, 0, 0, 504, 2656};
        int[] hooked = {0, 1, 2, 0, 0, 38, 124, 0};
        int[] wide = {0, 0, 2, 2, 0, 0, 52, 300, 0};
        for (int n = 1; n <= 9; n++) {
            Check.due("plain " + n, Check.ofKind(0, n).ways(), plain[n - 1]);
            Check.due("wide " + n, Check.ofKind(2, n).ways(), wide[n - 1]);
        }
        int[] open = {0, 0, 2, 2, 0, 0, 44, 260};
        for (int n = 1; n <= 8; n++) {
            Check.due("hooked " + n, Check.ofKind(1, n).ways(), hooked[n - 1]);
            Check.due("open " + n, Check.ofKind(3, n).ways(), open[n - 1]);
        }
        Check.due("no cells", new TwinRows().ways(), 1);
        Check.due("holes alone", Check.of("cells 2;hole 1;hole 2;").ways(), 1);
        Check.due("an empty place", Check.of("cells 1;").ways(), 0);
        Check.due("even, but too long", Check.of("cells 2;pair 15;").ways(), 0);
        Check.due("all pinned", Check.of("cells 4;pair 3 at 1;pair 1 at 2;").ways(), 1);
        Check.due("pinned in the way", Check.of("cells 4;pair 3;pair 1 at 1;").ways(), 0);
        TwinRows x = Check.ofKind(0, 5);
        Check.due("before", x.ways(), 10);
        x.pin(5, 1);
        int first = x.ways();
        x.pin(5, 5);
        Check.due("as many from behind", x.ways(), first);
    }

    private static void promise10Row() {
        TwinRows x = Check.ofKind(0, 4);
        int[][] rows = {
            {1, 1, 3, 4, 2, 3, 2, 4}, {1, 1, 4, 2, 3, 2, 4, 3}, {2, 3, 2, 4, 3, 1, 1, 4}, {3, 4, 2, 3, 2, 4, 1, 1},
            {4, 1, 1, 3, 4, 2, 3, 2}, {4, 2, 3, 2, 4, 3, 1, 1}
        };
        for (int rank = 0; rank < rows.length; rank++) {
            Check.due("row " + rank, Check.rowOrThrows(x, rank), rows[rank][0]);
            Check.due("row " + rank, Check.seen(x), rows[rank]);
        }
        for (int rank : new int[] {6, 7, -1, LEAST, MOST}) {
            Check.due("row " + rank, Check.rowOrThrows(x, rank), Check.THROWS);
            Check.due("what throws changes nothing", Check.seen(x), rows[5]);
        }
        TwinRows hole = Check.of("cells 5;hole 1;hole 4;pair 1 at 2;");
        Check.due("not even", Check.rowOrThrows(hole, 0), Check.THROWS);
        hole.hole(5, true);
        Check.due("a hole first", Check.rowOrThrows(hole, 0), 0);
        Check.due("holes", Check.seen(hole), 0, 1, 1, 0, 0);
        Check.due("one alone", Check.rowOrThrows(hole, 1), Check.THROWS);
        TwinRows far = Check.of("cells 18;pair 15 at 2;hole 1;hole 18;" + "hole 3;hole 4;hole 5;hole 6;hole 7;hole 8;"
            + "hole 9;hole 10;hole 11;hole 12;hole 13;hole 14;hole 15;hole 16;");
        Check.due("far apart", Check.rowOrThrows(far, 0), 0);
        Check.due("far apart", far.at(2) + far.at(17), 30);
    }

    private static boolean isFilling(int[] row, int pairs) {
        int seen = 0;
        for (int i = 0; i < row.length; i++) {
            int d = row[i];
            if (d == 0 || (seen >> d & 1) != 0) {
                continue;
            }
            if (i + d >= row.length || row[i + d] != d) {
                return false;
            }
            seen |= 1 << d;
        }
        return seen >> 1 == pairs;
    }

    private static void promise10RowsInOrder() {
        int[][] kinds = {{0, 8}, {1, 7}, {2, 8}, {3, 7}, {0, 5}, {1, 6}};
        for (int[] kind : kinds) {
            TwinRows x = Check.ofKind(kind[0], kind[1]);
            int ways = x.ways();
            int[] before = new int[0];
            for (int rank = 0; rank < ways; rank++) {
                x.row(rank);
                int[] row = Check.seen(x);
                Check.due("a filling", isFilling(row, x.now(2)), true);
                Check.due("in order", Arrays.compare(before, row) < 0, true);
                Check.due("its rank", Check.rankOf(x, row), rank);
                before = row;
            }
        }
    }

    private static void promise10RowWithoutCells() {
        TwinRows x = new TwinRows();
        Check.due("the row of no places", Check.rowOrThrows(x, 0), NONE);
        Check.due("a second one", Check.rowOrThrows(x, 1), Check.THROWS);
        Check.due("its places", x.at(1), NONE);
        Check.due("its places", x.at(0), NONE);
        Check.due("its distances", x.first(1), NONE);
        Check.due("its points", x.third(0, 0), NONE);
        Check.due("from behind", x.behind(), 0);
        x.kind(0, 1);
        Check.due("no filling here", x.behind(), NONE);
        x.row(0);
        x.undo();
        Check.due("the rank of no bytes", x.rank(), 0);
        Check.due("it is looked at", x.at(1), NONE);
        x.pair(1, true);
        Check.due("a pair and no cells", Check.rowOrThrows(x, 0), Check.THROWS);
        Check.due("no rank", x.rank(), NONE);
    }

    private static void promise11At() {
        TwinRows x = Check.ofKind(1, 2);
        Check.due("ahead of any", x.at(1), NONE);
        x.row(0);
        int[] row = {1, 1, 2, 0, 2};
        for (int place = 1; place <= 5; place++) {
            Check.due("at " + place, x.at(place), row[place - 1]);
        }
        for (int place : new int[] {0, -1, 6, 121, 122, LEAST, MOST}) {
            Check.due("at " + place, x.at(place), NONE);
        }
        x.kind(0, 9);
        Check.due("another frame leaves it", Check.seen(x), row);
        x.made(60);
        Check.due("a longer one", x.at(120), 60);
        Check.due("its end", x.at(121), NONE);
        x.kind(0, 1);
        x.row(0);
        Check.due("a shorter one", Check.seen(x), 1, 1);
    }

    private static void promise12First() {
        TwinRows x = Check.ofKind(1, 2);
        Check.due("ahead of any", x.first(1), NONE);
        x.row(0);
        Check.due("first(1)", x.first(1), 1);
        Check.due("first(2)", x.first(2), 3);
        for (int d : new int[] {0, 3, -1, 60, 61, LEAST, MOST}) {
            Check.due("first(" + d + ")", x.first(d), NONE);
        }
        x.made(60);
        Check.due("first(60)", x.first(60), 60);
        Check.due("first(61)", x.first(61), NONE);
        x.row(0);
        Check.due("first(60) is gone", x.first(60), NONE);
    }

    private static void promise13Rank() {
        TwinRows x = Check.ofKind(0, 4);
        Check.due("a filling", Check.rankOf(x, 3, 4, 2, 3, 2, 4, 1, 1), 3);
        Check.due("the tape is empty", x.now(6), 0);
        int[] row = {3, 4, 2, 3, 2, 4, 1, 1};
        Check.due("it is looked at", Check.seen(x), row);
        int[][] wrong = {
            {}, {3, 4, 2, 3, 2, 4, 1}, {3, 4, 2, 3, 2, 4, 1, 1, 0}, {3, 4, 2, 3, 2, 4, 1, 2}, {1, 1, 3, 4, 2, 3, 2, 0},
            {0, 0, 0, 0, 0, 0, 0, 0}, {1, 1, 5, 4, 2, 3, 2, 4}, {255, 1, 3, 4, 2, 3, 2, 4}, {16, 1, 3, 4, 2, 3, 2, 4},
            {1, 1, 1, 1, 1, 1, 1, 1}, {4, 4, 4, 4, 4, 4, 4, 4}
        };
        for (int[] w : wrong) {
            Check.due("rank of " + Arrays.toString(w), Check.rankOf(x, w), NONE);
            Check.due("the tape is empty", x.now(6), 0);
            Check.due("the row stays", Check.seen(x), row);
        }
        x.pin(4, 4);
        Check.due("against a pin", Check.rankOf(x, 3, 4, 2, 3, 2, 4, 1, 1), NONE);
        Check.due("ranks are those of the frame now", Check.rankOf(x, 2, 3, 2, 4, 3, 1, 1, 4), 1);
        TwinRows hole = Check.of("cells 5;hole 4;pair 1;pair 2;");
        Check.due("with a hole", Check.rankOf(hole, 1, 1, 2, 0, 2), 0);
        Check.due("a number at a hole", Check.rankOf(hole, 1, 1, 2, 3, 2), NONE);
        Check.due("bytes of 256 more", Check.rankOf(hole, 1, 1, 2, 128, 2), NONE);
    }

    private static void promise14Behind() {
        TwinRows x = Check.ofKind(0, 4);
        Check.due("ahead of any", x.behind(), NONE);
        int[] turned = {5, 3, 4, 1, 2, 0};
        for (int rank = 0; rank < 6; rank++) {
            x.row(rank);
            int[] row = Check.seen(x);
            Check.due("behind " + rank, x.behind(), turned[rank]);
            int[] back = Check.seen(x);
            for (int i = 0; i < 8; i++) {
                Check.due("turned", back[i], row[7 - i]);
            }
            Check.due("behind again", x.behind(), rank);
        }
        TwinRows hooked = Check.ofKind(1, 2);
        hooked.row(0);
        Check.due("holes lie otherwise", hooked.behind(), NONE);
        Check.due("the row stays", Check.seen(hooked), 1, 1, 2, 0, 2);
        TwinRows pinned = Check.ofKind(0, 4);
        pinned.pin(1, 1);
        pinned.row(0);
        Check.due("pins lie otherwise", pinned.behind(), NONE);
        pinned.pin(1, 7);
        Check.due("pins lie so in the frame now", pinned.behind(), 1);
        Check.due("it is looked at", Check.seen(pinned), 4, 2, 3, 2, 4, 3, 1, 1);
    }

    private static void promise14BehindOfOtherFrames() {
        TwinRows x = Check.ofKind(0, 8);
        x.made(8);
        int[] row = Check.seen(x);
        int rank = x.behind();
        Check.due("of a made one", rank >= 0, true);
        x.row(rank);
        Check.due("turned", x.at(1), row[15]);
        x.made(12);
        Check.due("too long", x.behind(), NONE);
        Check.due("it stays", x.at(24), 12);
        x.kind(0, 4);
        x.row(0);
        x.kind(2, 4);
        Check.due("other pairs", x.behind(), NONE);
        Check.tell(x, "cells 9;hole 1;pair 1;pair 2;pair 3;pair 4;");
        x.frame();
        Check.due("other places", x.behind(), NONE);
    }

    private static void promise15Standing() {
        TwinRows x = Check.ofKind(0, 4);
        int[][] due = {{2, 1, 0, 0, 0, 1, 2, 0}, {1, 1, 1, 1, 1, 1, 0, 0}, {1, 1, 2, 1, 1, 0, 0, 0}, {2, 1, 1, 2, 0, 0, 0, 0}};
        for (int d = 1; d <= 4; d++) {
            for (int place = 1; place <= 8; place++) {
                Check.due("standing(" + d + ", " + place + ")", x.standing(d, place), due[d - 1][place - 1]);
            }
        }
        for (int place : new int[] {0, -1, 9, 18, 19, LEAST, MOST}) {
            Check.due("standing(1, " + place + ")", x.standing(1, place), NONE);
        }
        for (int d : new int[] {0, -1, 5, 15, 16, LEAST, MOST}) {
            Check.due("standing(" + d + ", 1)", x.standing(d, 1), NONE);
        }
        x.pin(1, 6);
        Check.due("pinned", x.standing(1, 6), 1);
        Check.due("pinned elsewhere", x.standing(1, 1), 0);
        Check.due("another beside it", x.standing(4, 4), 1);
        x.hole(1, true);
        Check.due("no filling", x.standing(1, 6), 0);
        Check.due("no cells", new TwinRows().standing(1, 1), NONE);
    }

    private static void promise16May() {
        TwinRows x = Check.ofKind(0, 4);
        Check.due("may(1)", x.may(1), 0b1100011);
        Check.due("may(2)", x.may(2), 0b111111);
        Check.due("may(3)", x.may(3), 0b11111);
        Check.due("may(4)", x.may(4), 0b1111);
        for (int d : new int[] {0, -1, 5, 15, 16, LEAST, MOST}) {
            Check.due("may(" + d + ")", x.may(d), NONE);
        }
        x.pin(1, 6);
        Check.due("pinned", x.may(1), 0b100000);
        x.hole(1, true);
        Check.due("no filling", x.may(1), 0);
        Check.due("ahead of any", new TwinRows().may(1), NONE);
        TwinRows last = Check.of("cells 18;pair 15 at 1;pair 1 at 17;");
        Check.due("not even", last.may(1), 0);
    }

    private static void promise17Sure() {
        TwinRows x = Check.ofKind(0, 4);
        Check.due("none is sure", x.sure(), 0);
        x.pin(1, 1);
        Check.due("what is pinned", x.sure(), 1);
        x.pin(4, 4);
        Check.due("one filling: all", x.sure(), 15);
        x.pin(2, 8);
        x.hole(3, true);
        Check.due("no filling: none", x.sure(), 0);
        Check.due("no cells", new TwinRows().sure(), 0);
        Check.due("one filling", Check.ofKind(1, 2).sure(), 3);
        Check.due("sure without a pin", Check.of("cells 11;pair 9;pair 1;pair 2;pair 3;pair 4;hole 11;").sure(), 1 << 8);
        TwinRows y = Check.ofKind(1, 3);
        int rows = y.ways();
        int same = 7;
        y.row(0);
        int[] first = {y.first(1), y.first(2), y.first(3)};
        for (int rank = 1; rank < rows; rank++) {
            y.row(rank);
            for (int d = 1; d <= 3; d++) {
                same &= y.first(d) == first[d - 1] ? 7 : ~(1 << (d - 1));
            }
        }
        Check.due("as the rows say", y.sure(), same);
    }

    private static void promise18Extended() {
        TwinRows x = Check.ofKind(0, 4);
        x.row(2);
        for (int n = 1; n <= 7; n++) {
            TwinRows y = new TwinRows();
            y.kind(0, n);
            int all = 0;
            for (int hole = 1; hole <= 2 * n + 1; hole++) {
                StringBuilder text = new StringBuilder("cells ").append(2 * n + 1).append(";hole ").append(hole).append(';');
                for (int d = 1; d <= n; d++) {
                    text.append("pair ").append(d).append(';');
                }
                int ways = Check.of(text.toString()).ways();
                all += ways;
                Check.due("extended(" + n + ", " + hole + ")", x.extended(n, hole), ways);
                Check.due("from behind", x.extended(n, 2 * n + 2 - hole), ways);
            }
            Check.due("hole behind: as plain ones", x.extended(n, 2 * n + 1), y.ways());
            // counted apart, pair by pair
            Check.due("all extended of " + n, all, new int[] {2, 2, 6, 22, 48, 160, 636}[n - 1]);
        }
        int[][] wrong = {{0, 1}, {8, 1}, {-1, 1}, {1, 0}, {1, 4}, {7, 16}, {7, -1}, {LEAST, 1}, {MOST, 1}, {7, MOST}, {7, LEAST}};
        for (int[] w : wrong) {
            Check.due("extended(" + w[0] + ", " + w[1] + ")", x.extended(w[0], w[1]), NONE);
        }
        Check.due("the frame stays", x.ways(), 6);
        Check.due("and the row", Check.seen(x), 2, 3, 2, 4, 3, 1, 1, 4);
        Check.due("and the acts", x.now(5), 1);
    }

    /** A FRAME of 18 CELLS whose HOLES are all but for the places told. */
    private static TwinRows ofPlaces(String pairs, int... places) {
        StringBuilder text = new StringBuilder("cells 18;");
        for (int place = 1; place <= 18; place++) {
            if (Arrays.binarySearch(places, place) < 0) {
                text.append("hole ").append(place).append(';');
            }
        }
        return Check.of(text + pairs);
    }

    private static void mostCells() {
        TwinRows x = ofPlaces("pair 15;pair 1;", 3, 9, 10, 18);
        Check.due("18 cells, distance 15", x.ways(), 1);
        Check.due("sure", x.sure(), 1 << 14 | 1);
        Check.due("may", x.may(15), 4);
        Check.due("standing", x.standing(15, 3), 1);
        Check.due("standing", x.standing(15, 18), 0);
        Check.due("rank", Check.rankOf(x, 0, 0, 15, 0, 0, 0, 0, 0, 1, 1, 0, 0, 0, 0, 0, 0, 0, 15), 0);
        Check.due("wrong at the last place", Check.rankOf(x, 0, 0, 15, 0, 0, 0, 0, 0, 1, 1, 0, 0, 0, 0, 0, 0, 0, 1), NONE);
        Check.due("behind", x.behind(), NONE);
        x.pin(15, 3);
        Check.due("sure, pinned", x.sure(), 1 << 14 | 1);
        x.hole(9, true);
        Check.due("no longer", x.may(15), 0);
        Check.due("no longer", x.standing(15, 3), 0);
        TwinRows y = ofPlaces("pair 15;pair 1;", 2, 9, 10, 17);
        y.row(0);
        Check.due("the same from behind", y.behind(), 0);
    }

    private static void mostFillings() {
        TwinRows x = Check.ofKind(0, 9);
        Check.due("no 2657th one", Check.rowOrThrows(x, 2656), Check.THROWS);
        int[] last = null;
        for (int rank = 2655; rank >= 0; rank -= 45) {
            x.row(rank);
            int[] row = Check.seen(x);
            Check.due("a filling", isFilling(row, 511), true);
            Check.due("in order", last == null || Arrays.compare(row, last) < 0, true);
            Check.due("behind", x.behind() >= 0, true);
            for (int place = 1; place <= 18; place++) {
                Check.due("turned", x.at(place), row[18 - place]);
            }
            Check.due("behind again", x.behind(), rank);
            Check.due("its rank", Check.rankOf(x, row), rank);
            row[17] = 0;
            Check.due("a wrong last place", Check.rankOf(x, row), NONE);
            last = Check.seen(x);
        }
        int all = 0;
        for (int place = 1; place <= 18; place++) {
            all += x.standing(9, place);
        }
        Check.due("9 stands somewhere in each", all, 2656);
    }
}
