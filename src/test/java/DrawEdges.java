/** The edges of DRAWN and of promise 24. */
final class DrawEdges {
    private static final int NONE = TwinRows.NONE;
    private static final int LEAST = Integer.MIN_VALUE;
    private static final int MOST = Integer.MAX_VALUE;

    private long seedNow;

    private DrawEdges(int seed) {
        seedNow = seed;
    }

    static void run() {
        drawsOfSeeds();
        drawnHoles();
        drawnPairs();
        drawnPins();
        drawnPinsWithoutPairs();
        whatCantBe();
        withoutCells();
        howMany();
        drawnRefuses();
    }

    /** A draw by numbers that do not wrap: the seed is cut to 32 bits, without a sign. */
    private int draw(int n) {
        seedNow = (seedNow * 1103515245L + 12345L) & 0xffffffffL;
        return (int) (seedNow / 256 % n);
    }

    /** The least seed by which draws of these numbers answer so. */
    static int seedFor(int[] sizes, int[] values) {
        for (int seed = 0;; seed++) {
            DrawEdges draws = new DrawEdges(seed);
            int same = 0;
            while (same < sizes.length && draws.draw(sizes[same]) == values[same]) {
                same++;
            }
            if (same == sizes.length) {
                return seed;
            }
        }
    }

    private static int seedOf(int... sizesAndValues) {
        int[] sizes = new int[sizesAndValues.length / 2];
        int[] values = new int[sizes.length];
        for (int i = 0; i < sizes.length; i++) {
            sizes[i] = sizesAndValues[2 * i];
            values[i] = sizesAndValues[2 * i + 1];
        }
        return seedFor(sizes, values);
    }

    private static void dueDrawn(String text, int n, int seed, int done, int holes, int pairs, int pinned) {
        dueDrawn("drawn(" + n + ", " + seed + ") of " + text, Check.of(text), n, seed, done, holes, pairs, pinned);
    }

    private static void dueDrawn(String label, TwinRows x, int n, int seed, int done, int... frame) {
        int acts = x.now(5);
        Check.due(label, x.drawn(n, seed), done);
        for (int what = 0; what < 3; what++) {
            Check.due(label + ": now(" + (what + 1) + ")", x.now(what + 1), frame[what]);
        }
        Check.due(label + ": acts", x.now(5), acts + (done > 0 ? 1 : 0));
    }

    /** The DEEDS by the calls hole, pair and pin. */
    private int byActs(TwinRows x, int n) {
        int done = 0;
        for (int deed = 0; deed < n; deed++) {
            int choice = draw(4);
            if (choice == 0) {
                int place = draw(x.now(0)) + 1;
                done += x.hole(place, (x.now(1) >> place - 1 & 1) == 0) == NONE ? 0 : 1;
            } else if (choice == 1) {
                int d = draw(15) + 1;
                done += x.pair(d, x.pinned(d) == NONE) == NONE ? 0 : 1;
            } else if (x.now(2) != 0) {
                int index = draw(Integer.bitCount(x.now(2)));
                int place = draw(x.now(0)) + 1;
                int d = 0;
                for (int left = index; left >= 0; left--) {
                    do {
                        d++;
                    } while (x.pinned(d) == NONE);
                }
                done += x.pin(d, x.pinned(d) == 0 ? place : 0) == 0 ? 1 : 0;
            }
        }
        return done;
    }

    private static void drawsOfSeeds() {
        Sentences.test(Sentences.TERMS, "DRAWN by a seed s: for each draw of n s becomes s * 1103515245 + 12345 (an int,"
            + " wrapping), the draw is (s >>> 8) % n:");
        for (int seed : new int[] {0, 1, -1, 2, -2, 12345, -12345, LEAST, LEAST + 1, MOST, MOST - 1, 1 << 30, 0x00ffffff, 255, 256}) {
            for (String text : new String[] {"cells 1;", "cells 7;hole 2;pair 4;pair 1 at 3;", "cells 18;pair 15;"}) {
                for (int n : new int[] {1, 2, 20, 60}) {
                    TwinRows x = Check.of(text);
                    TwinRows y = Check.of(text);
                    String label = "drawn(" + n + ", " + seed + ") of " + text;
                    int done = new DrawEdges(seed).byActs(y, n);
                    dueDrawn(label, x, n, seed, done, y.now(1), y.now(2), y.now(3));
                    for (int d = 1; d <= 15; d++) {
                        Check.due(label + ": pinned(" + d + ")", x.pinned(d), y.pinned(d));
                    }
                }
            }
        }
    }

    private static void drawnHoles() {
        Sentences.test(Sentences.TERMS, "each DEED: a draw of 4: 0: a draw of CELLS (and 1): a HOLE is set there, or taken"
            + " away;");
        for (int cells : new int[] {1, 2, 17, 18}) {
            for (int place = 1; place <= cells; place++) {
                int seed = seedOf(4, 0, cells, place - 1);
                TwinRows x = Check.of("cells " + cells + ";");
                dueDrawn("set", x, 1, seed, 1, 1 << place - 1, 0, 0);
                dueDrawn("taken away", x, 1, seed, 1, 0, 0, 0);
            }
        }
    }

    private static void drawnPairs() {
        Sentences.test(Sentences.TERMS, "1: a draw of 15 (and 1): that PAIR comes, or goes;");
        for (int d = 1; d <= 15; d++) {
            int seed = seedOf(4, 1, 15, d - 1);
            TwinRows x = Check.of("cells 18;");
            dueDrawn("comes", x, 1, seed, 1, 0, 1 << d - 1, 0);
            Check.due("free", x.pinned(d), 0);
            x.pin(d, 2);
            dueDrawn("goes, though it is pinned", x, 1, seed, 1, 0, 0, 0);
            Check.due("gone", x.pinned(d), NONE);
        }
    }

    private static void drawnPins() {
        Sentences.test(Sentences.TERMS, "else a draw of PAIRS (in order of DISTANCES;");
        String text = "cells 18;pair 9;pair 15;pair 2;";
        int[] distances = {2, 9, 15};
        for (int choice = 2; choice <= 3; choice++) {
            for (int index = 0; index < 3; index++) {
                int d = distances[index];
                dueDrawn(text, 1, seedOf(4, choice, 3, index, 18, 1), 1, 0, 1 << 14 | 1 << 8 | 2, 1 << d - 1);
            }
        }
        Sentences.test(Sentences.TERMS, "of CELLS (and 1): it is PINNED there, or, if it is PINNED, free.");
        for (int place = 1; place <= 18; place++) {
            int seed = seedOf(4, 2, 1, 0, 18, place - 1);
            TwinRows x = Check.of("cells 18;pair 1;");
            dueDrawn("pinned at " + place, x, 1, seed, place < 18 ? 1 : 0, 0, 1, place < 18 ? 1 : 0);
            Check.due("where", x.pinned(1), place < 18 ? place : 0);
            TwinRows y = Check.of("cells 18;pair 1 at 5;");
            dueDrawn("free by " + place, y, 1, seed, 1, 0, 1, 0);
            // both draws are made, though the place does not matter: then a HOLE comes
            TwinRows z = Check.of("cells 18;pair 1 at 5;");
            dueDrawn("free, then a hole", z, 2, seedOf(4, 3, 1, 0, 18, place - 1, 4, 0, 18, 8), 2, 1 << 8, 1, 0);
        }
    }

    private static void drawnPinsWithoutPairs() {
        Sentences.test(Sentences.TERMS, "none: no draws more),");
        for (int place = 1; place <= 8; place++) {
            dueDrawn("cells 8;", 1, seedOf(4, 2), 0, 0, 0, 0);
            // the next draw is that of 4 of the next DEED
            dueDrawn("cells 8;", 2, seedOf(4, 2, 4, 0, 8, place - 1), 1, 1 << place - 1, 0, 0);
            dueDrawn("cells 8;", 3, seedOf(4, 3, 4, 2, 4, 0, 8, place - 1), 1, 1 << place - 1, 0, 0);
        }
    }

    private static void whatCantBe() {
        Sentences.test(Sentences.TERMS, "What can't be is left");
        String pinned = "cells 8;pair 3 at 2;";
        dueDrawn(pinned, 1, seedOf(4, 0, 8, 1), 0, 0, 4, 4);
        dueDrawn(pinned, 1, seedOf(4, 0, 8, 4), 0, 0, 4, 4);
        dueDrawn(pinned, 1, seedOf(4, 0, 8, 2), 1, 4, 4, 4);
        String nine = "cells 8;pair 1;pair 2;pair 3;pair 4;pair 5;pair 6;pair 7;pair 8;pair 9;";
        dueDrawn(nine, 1, seedOf(4, 1, 15, 9), 0, 0, 511, 0);
        dueDrawn(nine, 1, seedOf(4, 1, 15, 8), 1, 0, 255, 0);
        String free = "cells 8;hole 4;pair 2;";
        dueDrawn(free, 1, seedOf(4, 2, 1, 0, 8, 3), 0, 8, 2, 0);
        dueDrawn(free, 1, seedOf(4, 2, 1, 0, 8, 1), 0, 8, 2, 0);
        dueDrawn(free, 1, seedOf(4, 2, 1, 0, 8, 6), 0, 8, 2, 0);
        dueDrawn(free, 1, seedOf(4, 2, 1, 0, 8, 7), 0, 8, 2, 0);
        dueDrawn(free, 1, seedOf(4, 2, 1, 0, 8, 5), 1, 8, 2, 2);
        String beside = "cells 8;pair 1;pair 2 at 3;";
        dueDrawn(beside, 1, seedOf(4, 2, 2, 0, 8, 1), 0, 0, 3, 2);
        dueDrawn(beside, 1, seedOf(4, 2, 2, 0, 8, 4), 0, 0, 3, 2);
        dueDrawn(beside, 1, seedOf(4, 2, 2, 0, 8, 5), 1, 0, 3, 3);
        // a DEED that is left is not counted, and the next one is done
        dueDrawn(free, 2, seedOf(4, 2, 1, 0, 8, 3, 4, 0, 8, 0), 1, 9, 2, 0);
    }

    private static void withoutCells() {
        Sentences.test(Sentences.TERMS, "(without CELLS: no more draws).");
        for (int seed = -100; seed < 100; seed++) {
            for (int n : new int[] {1, 2, 60}) {
                int given = seed;
                TwinRows x = new TwinRows();
                dueDrawn("without cells", x, n, given, 0, 0, 0, 0);
                x.pair(3, true);
                dueDrawn("without cells, with a pair", x, n, given, 0, 0, 4, 0);
            }
        }
        Witness.dueUnchangedWithoutCells("drawn(60, 1)", x -> x.drawn(60, 1), 0);
    }

    private static void howMany() {
        Sentences.test(24, "n (1 to 60) DEEDS DRAWN by a seed: how many were done;");
        for (int n = 1; n <= 60; n++) {
            // with one CELL and no PAIR a DEED that begins with 0 is always done; others are counted by the calls
            TwinRows x = Check.of("cells 1;");
            TwinRows y = Check.of("cells 1;");
            int done = new DrawEdges(n).byActs(y, n);
            dueDrawn("drawn(" + n + ", " + n + ")", x, n, n, done, y.now(1), y.now(2), y.now(3));
        }
        TwinRows x = Check.of("cells 8;");
        int setAndTaken = seedOf(4, 0, 8, 2, 4, 0, 8, 2);
        dueDrawn("set and taken away", x, 2, setAndTaken, 2, 0, 0, 0);
        Check.due("it was an act", x.undo(), 0);
        dueDrawn("one of them", x, 1, setAndTaken, 1, 4, 0, 0);
    }

    private static void drawnRefuses() {
        Sentences.test(24, "NONE: not as told.");
        for (int n : new int[] {0, -1, -60, 61, 62, 256, LEAST, MOST}) {
            Witness.dueUnchanged("drawn(" + n + ", 6)", x -> x.drawn(n, 6), NONE);
            Witness.dueUnchangedWithoutCells("drawn(" + n + ", 6)", x -> x.drawn(n, 6), NONE);
        }
        TwinRows x = Check.ofKind(0, 9);
        Check.due("drawn(60, 6)", x.drawn(60, 6) > 0, true);
        Check.due("drawn(1, 6)", x.drawn(1, 6) != NONE, true);
    }
}
