/** Promises 6 to 8 and 21 to 27: kinds, what a FRAME is now, acts on it, undoing, images. */
public final class FrameTest {
    private static final int NONE = TwinRows.NONE;
    private static final int LEAST = Integer.MIN_VALUE;
    private static final int MOST = Integer.MAX_VALUE;

    public static void main(String[] args) {
        promise6Kind();
        promise7Now();
        promise7Even();
        promise8Pinned();
        promise21Hole();
        promise22Pair();
        promise23Pin();
        promise24Drawn();
        promise24DrawnByHand();
        promise24DrawnWithoutCells();
        promise25Undo();
        promise25UndoKeepsEight();
        promise25WhatIsNoAct();
        promise26And27Images();
        Check.finish();
    }

    private static void dueFrame(String label, TwinRows x, int cells, int holes, int pairs, int pinned) {
        Check.due(label + ": cells", x.now(0), cells);
        Check.due(label + ": holes", x.now(1), holes);
        Check.due(label + ": pairs", x.now(2), pairs);
        Check.due(label + ": pinned", x.now(3), pinned);
    }

    private static void promise6Kind() {
        for (int n = 1; n <= 9; n++) {
            TwinRows x = new TwinRows();
            int pairs = (1 << n) - 1;
            Check.due("plain " + n, x.kind(0, n), 2 * n);
            dueFrame("plain " + n, x, 2 * n, 0, pairs, 0);
            Check.due("wide " + n, x.kind(2, n), 2 * n);
            dueFrame("wide " + n, x, 2 * n, 0, pairs << 1, 0);
            Check.due("hooked " + n, x.kind(1, n), n == 9 ? NONE : 2 * n + 1);
            if (n < 9) {
                dueFrame("hooked " + n, x, 2 * n + 1, 1 << (2 * n - 1), pairs, 0);
            }
            Check.due("open " + n, x.kind(3, n), n == 9 ? NONE : 2 * n + 1);
            if (n < 9) {
                dueFrame("open " + n, x, 2 * n + 1, 1 << n, pairs, 0);
            }
        }
        TwinRows x = Check.ofKind(0, 4);
        x.pin(2, 2);
        int[][] wrong = {{-1, 1}, {4, 1}, {0, 0}, {0, 10}, {2, 10}, {1, 9}, {3, 9}, {3, -1}, {LEAST, LEAST}, {MOST, MOST}};
        for (int[] w : wrong) {
            Check.due("kind(" + w[0] + ", " + w[1] + ")", x.kind(w[0], w[1]), NONE);
        }
        dueFrame("a wrong kind changes nothing", x, 8, 0, 15, 2);
        Check.due("a wrong kind is no act", x.now(5), 2);
        x.kind(0, 4);
        dueFrame("a kind has no pins", x, 8, 0, 15, 0);
    }

    private static void promise7Now() {
        TwinRows x = Check.of("cells 10;hole 3;pair 4 at 1;pair 2;");
        dueFrame("told", x, 10, 4, 10, 8);
        x.feed(0, 0, 0, 0, 0);
        x.end(13);
        Check.due("bytes of the tape", x.now(6), 13);
        Check.due("acts", x.now(5), 0);
        x.hole(9, true);
        x.pair(15, true);
        Check.due("acts", x.now(5), 2);
        dueFrame("changed", x, 10, 4 | 256, 10 | 1 << 14, 8);
        for (int what : new int[] {-1, 7, 8, LEAST, MOST}) {
            Check.due("now(" + what + ")", x.now(what), NONE);
        }
    }

    private static void promise7Even() {
        Check.due("nothing is even", new TwinRows().now(4), 1);
        int[] plain = {1, 0, 0, 1, 1, 0, 0, 1, 1};
        int[] hooked = {0, 1, 1, 0, 0, 1, 1, 0};
        for (int n = 1; n <= 9; n++) {
            Check.due("plain " + n, Check.ofKind(0, n).now(4), plain[n - 1]);
        }
        for (int n = 1; n <= 8; n++) {
            Check.due("hooked " + n, Check.ofKind(1, n).now(4), hooked[n - 1]);
        }
        Check.due("too many places", Check.of("cells 4;pair 1;").now(4), 0);
        Check.due("too few places", Check.of("cells 2;pair 1;pair 2;").now(4), 0);
        Check.due("cells alone", Check.of("cells 2;").now(4), 0);
        Check.due("holes alone", Check.of("cells 2;hole 1;hole 2;").now(4), 1);
        Check.due("far apart, odd", Check.of("cells 2;pair 15;").now(4), 1);
        Check.due("far apart, even", Check.of("cells 2;pair 14;").now(4), 0);
        Check.due("a hole changes it", Check.of("cells 3;pair 1;hole 2;").now(4), 0);
        Check.due("another does not", Check.of("cells 3;pair 1;hole 3;").now(4), 1);
        TwinRows x = new TwinRows();
        x.pair(1, true);
        Check.due("a pair without cells", x.now(4), 0);
    }

    private static void promise8Pinned() {
        TwinRows x = Check.of("cells 9;pair 3 at 6;pair 15;");
        Check.due("pinned(3)", x.pinned(3), 6);
        Check.due("pinned(15)", x.pinned(15), 0);
        for (int d : new int[] {1, 0, -1, 16, LEAST, MOST}) {
            Check.due("pinned(" + d + ")", x.pinned(d), NONE);
        }
        x.pin(3, 1);
        Check.due("moved", x.pinned(3), 1);
        x.pair(3, false);
        Check.due("gone", x.pinned(3), NONE);
        x.pair(3, true);
        Check.due("it comes free", x.pinned(3), 0);
        Check.due("and now tells so", x.now(3), 0);
        Check.due("its old places are free", x.hole(1, true), 1);
    }

    private static void promise21Hole() {
        TwinRows x = Check.of("cells 9;pair 3 at 2;");
        Check.due("a hole", x.hole(1, true), 1);
        Check.due("again", x.hole(1, true), NONE);
        Check.due("another", x.hole(9, true), 2);
        Check.due("none there", x.hole(8, false), NONE);
        for (int place : new int[] {0, -1, 10, 32, 33, 41, LEAST, MOST}) {
            Check.due("hole(" + place + ", true)", x.hole(place, true), NONE);
            Check.due("hole(" + place + ", false)", x.hole(place, false), NONE);
        }
        Check.due("at the first of a pinned one", x.hole(2, true), NONE);
        Check.due("at the second of it", x.hole(5, true), NONE);
        Check.due("taken away there", x.hole(5, false), NONE);
        Check.due("between them", x.hole(3, true), 3);
        Check.due("taken away", x.hole(1, false), 2);
        dueFrame("holes", x, 9, 4 | 256, 4, 4);
        Check.due("acts", x.now(5), 4);
        Check.due("without cells", new TwinRows().hole(1, true), NONE);
    }

    private static void promise22Pair() {
        TwinRows x = Check.of("cells 9;pair 3 at 2;");
        Check.due("it comes", x.pair(1, true), 2);
        Check.due("again", x.pair(1, true), NONE);
        Check.due("the longest", x.pair(15, true), 3);
        Check.due("none such", x.pair(2, false), NONE);
        for (int d : new int[] {0, -1, 16, 33, LEAST, MOST}) {
            Check.due("pair(" + d + ", true)", x.pair(d, true), NONE);
            Check.due("pair(" + d + ", false)", x.pair(d, false), NONE);
        }
        Check.due("a pinned one goes", x.pair(3, false), 2);
        dueFrame("pairs", x, 9, 0, 1 | 1 << 14, 0);
        for (int d = 2; d <= 8; d++) {
            Check.due("pair " + d, x.pair(d, true), d + 1);
        }
        Check.due("a tenth", x.pair(9, true), NONE);
        Check.due("one of nine again", x.pair(8, true), NONE);
        Check.due("one of nine goes", x.pair(8, false), 8);
        Check.due("another comes", x.pair(9, true), 9);
        TwinRows y = new TwinRows();
        Check.due("without cells", y.pair(7, true), 1);
        Check.due("pinned nowhere", y.pinned(7), 0);
        Check.due("no filling", y.ways(), 0);
        Check.due("it goes", y.pair(7, false), 0);
    }

    private static void promise23Pin() {
        TwinRows x = Check.of("cells 9;hole 4;pair 1;pair 2;pair 3;pair 9;");
        Check.due("pin", x.pin(2, 1), 0);
        Check.due("it is so", x.pin(2, 1), 1);
        Check.due("free, as it is", x.pin(3, 0), 1);
        Check.due("first at a hole", x.pin(3, 4), 2);
        Check.due("second at a hole", x.pin(2, 2), 2);
        Check.due("first at a pinned one's first", x.pin(3, 1), 2);
        Check.due("first at a pinned one's second", x.pin(3, 3), 2);
        Check.due("moved on", x.pin(2, 5), 0);
        Check.due("second at a pinned one's second", x.pin(1, 6), 2);
        Check.due("second at a pinned one's first", x.pin(3, 2), 2);
        Check.due("moved onto its own second", x.pin(2, 7), 0);
        Check.due("moved onto its own first", x.pin(2, 5), 0);
        Check.due("the last place", x.pin(3, 6), 0);
        Check.due("its second beyond", x.pin(1, 9), NONE);
        Check.due("its second beyond, onto a hole", x.pin(9, 4), NONE);
        Check.due("longer than the cells", x.pin(9, 1), NONE);
        for (int place : new int[] {-1, 10, 32, 33, LEAST, MOST, MOST - 8}) {
            Check.due("pin(1, " + place + ")", x.pin(1, place), NONE);
        }
        for (int d : new int[] {4, 0, -1, 16, 33, LEAST, MOST}) {
            Check.due("pin(" + d + ", 1)", x.pin(d, 1), NONE);
            Check.due("pin(" + d + ", 0)", x.pin(d, 0), NONE);
        }
        dueFrame("pins", x, 9, 8, 0b100000111, 0b110);
        Check.due("free", x.pin(3, 0), 0);
        Check.due("it is free", x.pinned(3), 0);
        Check.due("acts", x.now(5), 6);
        TwinRows y = new TwinRows();
        y.pair(1, true);
        Check.due("without cells", y.pin(1, 1), NONE);
        Check.due("free without cells", y.pin(1, 0), 1);
    }

    private static void promise24Drawn() {
        for (int n : new int[] {0, 61, -1, LEAST, MOST}) {
            TwinRows x = Check.ofKind(0, 4);
            Check.due("drawn(" + n + ", 1)", x.drawn(n, 1), NONE);
            Check.due("it is no act", x.now(5), 1);
        }
        for (int seed = -300; seed < 300; seed++) {
            TwinRows x = Check.of("cells 7;hole 2;pair 4;pair 1 at 3;");
            TwinRows y = Check.of("cells 7;hole 2;pair 4;pair 1 at 3;");
            int n = 1 + (seed + 300) % 60;
            Check.due("drawn(" + n + ", " + seed + ")", x.drawn(n, seed), drawByActs(y, n, seed));
            dueFrame("drawn(" + n + ", " + seed + ")", x, y.now(0), y.now(1), y.now(2), y.now(3));
            for (int d = 1; d <= 15; d++) {
                Check.due("drawn, pinned(" + d + ")", x.pinned(d), y.pinned(d));
            }
        }
    }

    private static int seedNow;

    private static int draw(int n) {
        seedNow = seedNow * 1103515245 + 12345;
        return (seedNow >>> 8) % n;
    }

    /** The DEEDS, done by the calls hole, pair and pin, which other tests look at. */
    private static int drawByActs(TwinRows x, int n, int seed) {
        seedNow = seed;
        int done = 0;
        for (int i = 0; i < n; i++) {
            int answer;
            switch (draw(4)) {
                case 0: {
                    int place = draw(x.now(0)) + 1;
                    answer = x.hole(place, (x.now(1) >> (place - 1) & 1) == 0);
                    break;
                }
                case 1: {
                    int d = draw(15) + 1;
                    answer = x.pair(d, (x.now(2) >> (d - 1) & 1) == 0);
                    break;
                }
                default: {
                    answer = pinByActs(x);
                    break;
                }
            }
            done += answer == NONE ? 0 : 1;
        }
        return done;
    }

    private static int pinByActs(TwinRows x) {
        int pairs = Integer.bitCount(x.now(2));
        if (pairs == 0) {
            return NONE;
        }
        int bits = x.now(2);
        for (int skip = draw(pairs); skip > 0; skip--) {
            bits &= bits - 1;
        }
        int d = Integer.numberOfTrailingZeros(bits) + 1;
        int place = draw(x.now(0)) + 1;
        return x.pin(d, x.pinned(d) == 0 ? place : 0) == 0 ? 0 : NONE;
    }

    private static void promise24DrawnByHand() {
        // seed 1 becomes 1103527590 (a draw of 4: 2), 2524885223 (of 2 PAIRS: 0), 662824084 (of 8 CELLS: 4)
        TwinRows x = Check.of("cells 8;pair 2;pair 5;");
        Check.due("a pin is drawn", x.drawn(1, 1), 1);
        Check.due("which one", x.now(3), 2);
        Check.due("where", x.pinned(2), 5);
        Check.due("again with the same seed it is free", x.drawn(1, 1), 1);
        Check.due("free", x.now(3), 0);
        Check.due("one act each", x.now(5), 2);
        Check.due("without pairs nothing is drawn", Check.of("cells 8;").drawn(1, 1), 0);
    }

    private static void promise24DrawnWithoutCells() {
        for (int seed = 0; seed < 50; seed++) {
            TwinRows x = new TwinRows();
            Check.due("without cells", x.drawn(60, seed), 0);
            Check.due("it is no act", x.now(5), 0);
            x.pair(3, true);
            Check.due("with a pair, without cells", x.drawn(60, seed), 0);
            dueFrame("with a pair, without cells", x, 0, 0, 4, 0);
        }
    }

    private static void promise25Undo() {
        TwinRows x = Check.of("cells 8;hole 1;pair 4 at 2;pair 1;");
        x.kind(1, 3);
        x.hole(2, true);
        x.pair(9, true);
        x.pin(3, 4);
        int done = x.drawn(30, 5);
        Check.due("drawn does something", done > 0, true);
        Check.due("drawn is one act", x.now(5), 5);
        Check.due("undo drawn", x.undo(), 4);
        dueFrame("undo drawn", x, 7, 34, 7 | 256, 4);
        Check.due("undo drawn: the pin", x.pinned(3), 4);
        Check.due("undo pin", x.undo(), 3);
        dueFrame("undo pin", x, 7, 34, 7 | 256, 0);
        Check.due("undo pair", x.undo(), 2);
        dueFrame("undo pair", x, 7, 34, 7, 0);
        Check.due("undo hole", x.undo(), 1);
        dueFrame("undo hole", x, 7, 32, 7, 0);
        Check.due("ways of it", x.ways(), Check.ofKind(1, 3).ways());
        Check.due("undo kind", x.undo(), 0);
        dueFrame("undo kind", x, 8, 1, 9, 8);
        Check.due("undo kind: the pin", x.pinned(4), 2);
        Check.due("nothing more", x.undo(), NONE);
        dueFrame("nothing more", x, 8, 1, 9, 8);
        TwinRows y = Check.ofKind(0, 4);
        y.row(0);
        y.pair(4, false);
        Check.due("ways without 4", y.ways(), 0);
        y.undo();
        Check.due("ways are counted anew", y.ways(), 6);
        y.undo();
        dueFrame("back to no cells", y, 0, 0, 0, 0);
        Check.due("the row stays", y.at(8), 4);
    }

    private static void promise25UndoKeepsEight() {
        TwinRows x = Check.of("cells 18;");
        for (int place = 1; place <= 12; place++) {
            x.hole(place, true);
            Check.due("acts kept", x.now(5), Math.min(place, 8));
        }
        for (int more = 7; more >= 3; more--) {
            Check.due("undo", x.undo(), more);
        }
        dueFrame("five undone", x, 18, 127, 0, 0);
        x.hole(18, true);
        Check.due("an act behind undoing", x.now(5), 4);
        for (int more = 3; more >= 0; more--) {
            Check.due("undo", x.undo(), more);
        }
        Check.due("no more", x.undo(), NONE);
        dueFrame("the first four stay", x, 18, 15, 0, 0);
    }

    private static void promise25WhatIsNoAct() {
        TwinRows x = Check.of("cells 8;hole 1;pair 1 at 2;pair 2;");
        x.kind(9, 9);
        x.hole(1, true);
        x.pair(1, true);
        x.pin(1, 2);
        x.pin(2, 1);
        x.pin(2, 9);
        x.pin(2, 0);
        x.made(8);
        x.image(0);
        x.ways();
        x.extended(3, 6);
        Check.due("none of these is an act", x.undo(), NONE);
        TwinRows y = Check.of("cells 1;");
        int acts = 0;
        for (int seed = 0; seed < 40; seed++) {
            int done = y.drawn(1, seed);
            acts = Math.min(acts + done, 8);
            Check.due("drawn is an act if it does something", y.now(5), acts);
            if (seed % 4 == 3 && y.undo() != NONE) {
                acts--;
            }
        }
    }

    private static void promise26And27Images() {
        TwinRows x = Check.of("cells 8;hole 1;pair 4 at 2;pair 1;");
        for (int k : new int[] {-1, 2, LEAST, MOST}) {
            Check.due("image(" + k + ")", x.image(k), false);
            Check.due("restore(" + k + ")", x.restore(k), false);
        }
        Check.due("nothing is kept", x.restore(0), false);
        Check.due("image(1)", x.image(1), true);
        Check.due("still nothing in 0", x.restore(0), false);
        x.kind(0, 4);
        x.row(3);
        Check.due("image(0)", x.image(0), true);
        Check.due("an image leaves acts", x.now(5), 1);
        x.pin(1, 1);
        x.feed(1, 2, 3, 4, 5);
        x.end(9);
        Check.due("ways of the pinned one", x.ways(), 2);
        Check.due("restore(0)", x.restore(0), true);
        dueFrame("restore(0)", x, 8, 0, 15, 0);
        Check.due("its ways", x.ways(), 6);
        Check.due("no acts", x.now(5), 0);
        Check.due("no undo", x.undo(), NONE);
        Check.due("the tape stays", x.now(6), 9);
        Check.due("the row stays", x.at(1), Check.rowOrThrows(Check.ofKind(0, 4), 3));
        Check.due("restore(1)", x.restore(1), true);
        dueFrame("restore(1)", x, 8, 1, 9, 8);
        Check.due("its pin", x.pinned(4), 2);
        x.pin(4, 0);
        x.image(1);
        x.kind(0, 1);
        x.restore(1);
        dueFrame("kept anew", x, 8, 1, 9, 0);
        x.hole(8, true);
        x.restore(1);
        dueFrame("what is done later does not change an image", x, 8, 1, 9, 0);
        TwinRows y = new TwinRows();
        Check.tell(y, "cells 0;");
        y.frame();
        Check.due("an image without cells", y.image(0), true);
        y.kind(0, 1);
        Check.due("restored", y.restore(0), true);
        dueFrame("no cells", y, 0, 0, 0, 0);
        Check.due("the fault stays", y.fault(), 2);
    }
}
