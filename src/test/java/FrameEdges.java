import java.util.List;
import java.util.function.ToLongFunction;

/** The edges of promises 6 to 8, 21 to 23 and 25 to 27: kinds, what a FRAME is now, acts, undoing, images. */
final class FrameEdges {
    private static final int NONE = TwinRows.NONE;
    private static final int LEAST = Integer.MIN_VALUE;
    private static final int MOST = Integer.MAX_VALUE;

    private FrameEdges() {
    }

    static void run() {
        kindsOfFrames();
        kindOrders();
        kindAnswers();
        kindRefuses();
        bitsOfPlaces();
        nowTells();
        nowRefuses();
        even();
        notEven();
        pinnedTells();
        pinnedRefuses();
        holeSet();
        holeRefuses();
        pairComesAndGoes();
        pairRefuses();
        pairOfNine();
        pinSet();
        pinIsSo();
        pinTaken();
        pinRefuses();
        undoOfEach();
        undoOfNoAct();
        undoKeepsEight();
        undoNone();
        imageKept();
        imageRefuses();
        restoreAsKept();
        restoreLeaves();
        restoreRefuses();
    }

    private static void dueFrame(String label, TwinRows x, int cells, int holes, int pairs, int pinned) {
        Check.due(label + ": cells", x.now(0), cells);
        Check.due(label + ": holes", x.now(1), holes);
        Check.due(label + ": pairs", x.now(2), pairs);
        Check.due(label + ": pinned", x.now(3), pinned);
    }

    private static void dueKind(int kind, int order, int cells, int holes, int pairs) {
        TwinRows x = Witness.full();
        Check.due("kind(" + kind + ", " + order + ")", x.kind(kind, order), cells);
        dueFrame("kind(" + kind + ", " + order + ")", x, cells, holes, pairs, 0);
    }

    private static void kindsOfFrames() {
        Sentences.test(Sentences.TERMS, "KINDS of FRAMES of an ORDER n: 0 PLAIN: 2 n places, DISTANCES 1 to n;");
        dueKind(0, 1, 2, 0, 0b1);
        dueKind(0, 2, 4, 0, 0b11);
        dueKind(0, 9, 18, 0, 0b111111111);
        Sentences.test(Sentences.TERMS, "1 HOOKED: 2 n and 1 places, a HOLE at 2 n, DISTANCES 1 to n;");
        dueKind(1, 1, 3, 0b010, 0b1);
        dueKind(1, 2, 5, 0b01000, 0b11);
        dueKind(1, 8, 17, 1 << 15, 0b11111111);
        Sentences.test(Sentences.TERMS, "2 WIDE: 2 n places, DISTANCES 2 to n and 1;");
        dueKind(2, 1, 2, 0, 0b10);
        dueKind(2, 2, 4, 0, 0b110);
        dueKind(2, 9, 18, 0, 0b1111111110);
        Sentences.test(Sentences.TERMS, "3 OPEN: 2 n and 1 places, a HOLE in the midst (at n and 1), DISTANCES 1 to n.");
        dueKind(3, 1, 3, 0b010, 0b1);
        dueKind(3, 2, 5, 0b00100, 0b11);
        dueKind(3, 8, 17, 1 << 8, 0b11111111);
    }

    private static void kindOrders() {
        Sentences.test(6, "The FRAME is that of a KIND and an ORDER (1 to 9; of HOOKED, OPEN to 8):");
        for (int kind = 0; kind <= 3; kind++) {
            int most = kind == 1 || kind == 3 ? 8 : 9;
            for (int order = 0; order <= 11; order++) {
                TwinRows x = new TwinRows();
                boolean is = order >= 1 && order <= most;
                Check.due("kind(" + kind + ", " + order + ")", x.kind(kind, order) != NONE, is);
                Check.due("acts behind it", x.now(5), is ? 1 : 0);
                Check.due("pairs behind it", Integer.bitCount(x.now(2)), is ? order : 0);
            }
        }
    }

    private static void kindAnswers() {
        Sentences.test(6, "how many CELLS;");
        Check.due("kind(0, 1)", new TwinRows().kind(0, 1), 2);
        Check.due("kind(0, 9)", new TwinRows().kind(0, 9), 18);
        Check.due("kind(1, 8)", new TwinRows().kind(1, 8), 17);
        Check.due("kind(2, 9)", new TwinRows().kind(2, 9), 18);
        Check.due("kind(3, 1)", new TwinRows().kind(3, 1), 3);
        TwinRows x = Check.of("cells 9;hole 2;pair 3 at 4;");
        Check.due("kind(0, 4)", x.kind(0, 4), 8);
        Check.due("what was pinned is free", x.pinned(3), 0);
        Check.due("what was a hole is none", x.hole(2, true), 1);
    }

    private static void kindRefuses() {
        Sentences.test(6, "NONE: not as told.");
        int[][] wrong = {
            {-1, 1}, {4, 1}, {LEAST, 1}, {MOST, 1}, {0, 0}, {1, 0}, {2, 0}, {3, 0}, {0, -1}, {0, 10}, {2, 10}, {1, 9},
            {3, 9}, {0, LEAST}, {0, MOST}, {4, 10}, {256, 4}
        };
        for (int[] w : wrong) {
            String call = "kind(" + w[0] + ", " + w[1] + ")";
            Witness.dueUnchanged(call, x -> x.kind(w[0], w[1]), NONE);
            Witness.dueUnchangedWithoutCells(call, x -> x.kind(w[0], w[1]), NONE);
        }
    }

    private static void bitsOfPlaces() {
        Sentences.test(Sentences.TERMS, "Places are told as bits of an int, place 1 the lowest.");
        for (int place = 1; place <= 18; place++) {
            TwinRows x = Check.of("cells 18;");
            x.hole(place, true);
            Check.due("a hole at " + place, x.now(1), 1 << place - 1);
        }
        TwinRows x = Check.of("cells 18;pair 1 at 17;pair 2 at 1;pair 3 at 2;pair 4 at 4;pair 5 at 6;pair 6 at 7;pair 7 at 9;"
            + "pair 8;pair 9;");
        Check.due("no filling", x.may(1), 0);
        Check.due("the first place", Check.ofKind(0, 1).may(1), 1);
        TwinRows y = Check.of("cells 18;pair 1;");
        for (int place = 1; place <= 16; place++) {
            y.hole(place, true);
        }
        Check.due("the last but one", y.may(1), 1 << 16);
    }

    private static void nowTells() {
        Sentences.test(7, "0 CELLS, 1 HOLES as bits, 2 PAIRS (DISTANCE 1 the lowest bit), 3 those that are PINNED likewise,"
            + " 4 whether it is EVEN (1, 0), 5 acts that can be undone, 6 bytes of the tape.");
        TwinRows x = Check.of("cells 18;hole 2;hole 18;pair 1 at 4;pair 15 at 1;pair 14;");
        int[] due = {18, 1 << 17 | 2, 1 << 14 | 1 << 13 | 1, 1 << 14 | 1, 0, 0, 0};
        for (int what = 0; what <= 6; what++) {
            Check.due("now(" + what + ")", x.now(what), due[what]);
        }
        Check.due("even", Check.ofKind(0, 1).now(4), 1);
        for (int acts = 1; acts <= 10; acts++) {
            x.pin(14, acts % 2 == 1 ? 3 : 0);
            Check.due("acts", x.now(5), Math.min(acts, 8));
        }
        x.feed(0, 0, 0, 0, 0);
        x.end(1);
        Check.due("one byte", x.now(6), 1);
        for (int i = 0; i < 16; i++) {
            x.feed(0, 0, 0, 0, 0);
        }
        Check.due("bytes", x.now(6), 321);
    }

    private static void nowRefuses() {
        Sentences.test(7, "NONE for another what.");
        for (int what : new int[] {-1, 7, 8, 31, 32, 256, LEAST, MOST}) {
            Witness.dueUnchanged("now(" + what + ")", x -> x.now(what), NONE);
        }
        for (int what = 0; what <= 6; what++) {
            int asked = what;
            Witness.dueLeft("now(" + what + ")", Witness::full, x -> x.now(asked), Witness.full().now(asked));
        }
    }

    private static void dueEven(String text, int even) {
        Check.due("even: " + text, Check.of(text).now(4), even);
    }

    private static void even() {
        Sentences.test(Sentences.TERMS, "EVEN is a FRAME, if places that are no HOLES are twice as many as PAIRS, and these"
            + " places together less all DISTANCES together are an even number.");
        dueEven("", 1);
        dueEven("cells 1;", 0);
        dueEven("cells 1;hole 1;", 1);
        dueEven("cells 1;pair 1;", 0);
        dueEven("cells 2;pair 1;", 1);
        dueEven("cells 3;pair 1;", 0);
        dueEven("cells 2;pair 1;pair 2;", 0);
        dueEven("cells 2;pair 2;", 0);
        dueEven("cells 2;pair 3;", 1);
        dueEven("cells 2;pair 14;", 0);
        dueEven("cells 2;pair 15;", 1);
        dueEven("cells 3;hole 1;pair 1;", 1);
        dueEven("cells 3;hole 2;pair 1;", 0);
        dueEven("cells 3;hole 2;pair 2;", 1);
        dueEven("cells 3;hole 3;pair 1;", 1);
        dueEven("cells 3;hole 2;pair 2 at 1;", 1);
        dueEven("cells 5;hole 4;pair 1;pair 2;", 1);
        dueEven("cells 5;hole 5;pair 1;pair 2;", 0);
        // the 18th place and the 15th distance count, too
        String sixteenHoles = "cells 18;";
        for (int place = 2; place <= 17; place++) {
            sixteenHoles += "hole " + place + ";";
        }
        dueEven(sixteenHoles + "pair 15;", 1);
        dueEven(sixteenHoles + "pair 14;", 0);
        TwinRows x = new TwinRows();
        x.pair(2, true);
        Check.due("a pair without cells", x.now(4), 0);
    }

    private static void notEven() {
        Sentences.test(Sentences.TERMS, "(If not, there is no FILLING.)");
        for (String text : List.of("cells 1;", "cells 3;pair 1;", "cells 2;pair 1;pair 2;", "cells 2;pair 2;",
            "cells 3;hole 2;pair 1;", "cells 5;hole 5;pair 1;pair 2;", "cells 4;pair 1 at 1;pair 2;", "cells 4;pair 1 at 2;")) {
            TwinRows x = Check.of(text);
            Check.due("even: " + text, x.now(4), 0);
            Check.due("ways: " + text, x.ways(), 0);
            Check.due("row(0): " + text, Check.rowOrThrows(x, 0), Check.THROWS);
        }
        TwinRows x = Check.of("cells 2;pair 3;");
        Check.due("even and yet none", x.now(4) + x.ways(), 1);
    }

    private static void pinnedTells() {
        Sentences.test(8, "Where a PAIR is PINNED (0: it is free);");
        TwinRows x = Check.of("cells 18;pair 15 at 3;pair 1 at 1;pair 2;");
        Check.due("pinned(15)", x.pinned(15), 3);
        Check.due("pinned(1)", x.pinned(1), 1);
        Check.due("pinned(2)", x.pinned(2), 0);
        x.pin(15, 0);
        Check.due("pinned(15) free", x.pinned(15), 0);
        TwinRows last = Check.of("cells 18;pair 1 at 17;");
        Check.due("the last place", last.pinned(1), 17);
    }

    private static void pinnedRefuses() {
        Sentences.test(8, "NONE: no such PAIR.");
        for (int d : new int[] {0, 3, 14, 15, 16, 17, 32, 33, 34, -1, -31, LEAST, MOST}) {
            Witness.dueUnchanged("pinned(" + d + ")", x -> x.pinned(d), NONE);
            Witness.dueUnchangedWithoutCells("pinned(" + d + ")", x -> x.pinned(d), NONE);
        }
        TwinRows x = Check.of("cells 8;pair 3 at 2;");
        x.pair(3, false);
        Check.due("one that has gone", x.pinned(3), NONE);
    }

    private static void holeSet() {
        Sentences.test(21, "A HOLE is set at a place (is), taken away: how many HOLES there are;");
        for (int cells : new int[] {1, 2, 17, 18}) {
            TwinRows x = Check.of("cells " + cells + ";");
            for (int place = cells; place >= 1; place--) {
                Check.due("set " + place, x.hole(place, true), cells - place + 1);
            }
            Check.due("all are holes", x.now(1), (1 << cells) - 1);
            for (int place = 1; place <= cells; place++) {
                Check.due("taken away " + place, x.hole(place, false), cells - place);
            }
            Check.due("none is", x.now(1), 0);
        }
    }

    private static void dueNoHole(int place, boolean is) {
        Witness.dueUnchanged("hole(" + place + ", " + is + ")", x -> x.hole(place, is), NONE);
    }

    private static void holeRefuses() {
        // a full one: 2 _ 2 1 1 with the PAIR 2 PINNED
        Sentences.test(21, "NONE: no such place,");
        for (int place : new int[] {0, 6, 18, 19, 32, 33, 34, -1, -30, LEAST, MOST}) {
            dueNoHole(place, true);
            dueNoHole(place, false);
        }
        Witness.dueUnchangedWithoutCells("hole(1, true)", x -> x.hole(1, true), NONE);
        Witness.dueUnchangedWithoutCells("hole(1, false)", x -> x.hole(1, false), NONE);
        Sentences.test(21, "it is so,");
        dueNoHole(2, true);
        dueNoHole(4, false);
        dueNoHole(5, false);
        Sentences.test(21, "something is PINNED there.");
        dueNoHole(1, true);
        dueNoHole(3, true);
        dueNoHole(1, false);
        TwinRows x = Witness.full();
        Check.due("a place where a free one may stand", x.hole(4, true), 2);
        Check.due("a hole beside what is pinned is taken away", x.hole(2, false), 1);
        Check.due("what was pinned is free", x.pin(2, 0), 0);
        Check.due("a hole at its first", x.hole(1, true), 2);
        Check.due("a hole at its second", x.hole(3, true), 3);
    }

    private static void pairComesAndGoes() {
        Sentences.test(22, "A PAIR comes (is; free), goes: how many PAIRS there are;");
        for (int d = 1; d <= 15; d++) {
            TwinRows x = Check.of("cells 2;");
            Check.due("comes " + d, x.pair(d, true), 1);
            Check.due("its bit", x.now(2), 1 << d - 1);
            Check.due("free", x.pinned(d), 0);
            Check.due("goes " + d, x.pair(d, false), 0);
            Check.due("no bit", x.now(2), 0);
        }
        TwinRows x = Check.of("cells 18;pair 15 at 3;pair 1;");
        Check.due("a pinned one goes", x.pair(15, false), 1);
        Check.due("its pin goes, too", x.now(3), 0);
        Check.due("its place is free", x.hole(18, true), 1);
        Check.due("it comes", x.pair(15, true), 2);
        Check.due("free", x.pinned(15), 0);
        TwinRows bare = new TwinRows();
        Check.due("without cells", bare.pair(1, true), 1);
    }

    private static void duePairRefused(int d, boolean is) {
        Witness.dueUnchanged("pair(" + d + ", " + is + ")", x -> x.pair(d, is), NONE);
    }

    private static void pairRefuses() {
        Sentences.test(22, "NONE: no such DISTANCE (1 to 15),");
        for (int d : new int[] {0, 16, 17, 32, 33, 34, 48, -1, -31, LEAST, MOST}) {
            duePairRefused(d, true);
            duePairRefused(d, false);
            Witness.dueUnchangedWithoutCells("pair(" + d + ", true)", x -> x.pair(d, true), NONE);
        }
        Sentences.test(22, "it is so,");
        duePairRefused(1, true);
        duePairRefused(2, true);
        duePairRefused(3, false);
        duePairRefused(15, false);
    }

    private static TwinRows ofNine() {
        TwinRows x = Witness.full();
        for (int d = 9; d <= 15; d++) {
            x.pair(d, true);
        }
        return x;
    }

    private static void pairOfNine() {
        Sentences.test(22, "there are 9.");
        Check.due("nine", Integer.bitCount(ofNine().now(2)), 9);
        for (int d = 3; d <= 8; d++) {
            int tenth = d;
            Witness.dueLeft("a tenth, " + d, FrameEdges::ofNine, x -> x.pair(tenth, true), NONE);
        }
        Witness.dueLeft("one of the nine", FrameEdges::ofNine, x -> x.pair(15, true), NONE);
        TwinRows x = ofNine();
        Check.due("one goes", x.pair(15, false), 8);
        Check.due("a ninth", x.pair(3, true), 9);
        Check.due("a tenth", x.pair(15, true), NONE);
    }

    private static void pinSet() {
        Sentences.test(23, "A PAIR is PINNED with its first one at a place (0: free): 0;");
        for (int d = 1; d <= 15; d++) {
            for (int place = 1; place <= 18; place++) {
                TwinRows x = Check.of("cells 18;pair " + d + ";");
                boolean fits = place + d <= 18;
                Check.due("pin(" + d + ", " + place + ")", x.pin(d, place), fits ? 0 : NONE);
                Check.due("pinned(" + d + ")", x.pinned(d), fits ? place : 0);
                Check.due("acts", x.now(5), fits ? 1 : 0);
                Check.due("free", x.pin(d, 0), fits ? 0 : 1);
                Check.due("pinned(" + d + ") free", x.pinned(d), 0);
            }
        }
        TwinRows x = Check.of("cells 9;pair 2;");
        Check.due("pinned", x.pin(2, 3), 0);
        Check.due("onto its own second", x.pin(2, 5), 0);
        Check.due("onto its own first", x.pin(2, 3), 0);
        Check.due("beside itself", x.pin(2, 4), 0);
        Check.due("its old places are free", x.hole(3, true) + x.hole(5, true), 3);
    }

    private static void pinIsSo() {
        Sentences.test(23, "1: it is so;");
        // a full one: 2 _ 2 1 1 with the PAIR 2 PINNED
        Witness.dueUnchanged("pin(2, 1)", x -> x.pin(2, 1), 1);
        Witness.dueUnchanged("pin(1, 0)", x -> x.pin(1, 0), 1);
        TwinRows bare = new TwinRows();
        bare.pair(15, true);
        Check.due("free without cells", bare.pin(15, 0), 1);
        TwinRows x = Check.of("cells 2;pair 15;");
        Check.due("free, longer than the cells", x.pin(15, 0), 1);
    }

    private static void pinTaken() {
        Sentences.test(23, "2: a HOLE, something PINNED (another PAIR) is there, at one of both;");
        Witness.dueUnchanged("first at a hole", x -> x.pin(1, 2), 2);
        Witness.dueUnchanged("its own hole", x -> x.pin(2, 2), 2);
        Witness.dueUnchanged("first at a pinned one's first, second at a hole", x -> x.pin(1, 1), 2);
        Witness.dueUnchanged("first at a pinned one's second", x -> x.pin(1, 3), 2);
        TwinRows y = Check.of("cells 8;hole 8;pair 3 at 3;pair 1;pair 2;pair 4;");
        int[][] taken = {{1, 3}, {1, 6}, {1, 2}, {1, 5}, {1, 7}, {2, 3}, {2, 6}, {2, 1}, {2, 4}, {4, 3}, {4, 2}, {4, 4}, {3, 5}};
        for (int[] t : taken) {
            Check.due("pin(" + t[0] + ", " + t[1] + ")", y.pin(t[0], t[1]), 2);
            Check.due("acts", y.now(5), 0);
        }
        for (int[] t : new int[][] {{1, 1}, {1, 4}, {2, 2}, {2, 5}, {4, 1}}) {
            TwinRows z = Check.of("cells 8;hole 8;pair 3 at 3;pair 1;pair 2;pair 4;");
            Check.due("pin(" + t[0] + ", " + t[1] + ")", z.pin(t[0], t[1]), 0);
        }
        Check.due("the pinned one moves away", y.pin(3, 1), 0);
        Check.due("and leaves its places", y.pin(1, 6) + y.pin(2, 3), 0);
    }

    private static void duePinRefused(int d, int place) {
        Witness.dueUnchanged("pin(" + d + ", " + place + ")", x -> x.pin(d, place), NONE);
    }

    private static void pinRefuses() {
        Sentences.test(23, "NONE: no such PAIR,");
        for (int d : new int[] {0, 3, 15, 16, 33, 34, -1, -31, LEAST, MOST}) {
            duePinRefused(d, 0);
            duePinRefused(d, 1);
            duePinRefused(d, 4);
        }
        Witness.dueUnchangedWithoutCells("pin(1, 0)", x -> x.pin(1, 0), NONE);
        Witness.dueUnchangedWithoutCells("pin(1, 1)", x -> x.pin(1, 1), NONE);
        Sentences.test(23, "a place that there is not, at one of both.");
        for (int place : new int[] {5, 6, 7, 19, 32, 33, 36, -1, -28, LEAST, LEAST + 1, MOST, MOST - 1}) {
            duePinRefused(1, place);
        }
        for (int place : new int[] {4, 5, 6, -1, -2, MOST, MOST - 1, LEAST}) {
            duePinRefused(2, place);
        }
        TwinRows x = Check.of("cells 8;hole 7;pair 15;pair 2;pair 1 at 5;");
        Check.due("a hole at the first, no second", x.pin(2, 7), NONE);
        Check.due("longer than the cells", x.pin(15, 1), NONE);
        Check.due("from ahead of them", x.pin(15, -10), NONE);
        TwinRows bare = new TwinRows();
        bare.pair(1, true);
        Check.due("without cells", bare.pin(1, 1), NONE);
    }

    private static void undoOfEach() {
        Sentences.test(25, "The latest kind(), hole(), pair() that was not NONE, pin() that was 0, drawn() above 0 is undone:"
            + " how many more can be");
        Object[][] acts = {
            {"kind", (ToLongFunction<TwinRows>) x -> x.kind(1, 8)},
            {"a hole", (ToLongFunction<TwinRows>) x -> x.hole(4, true)},
            {"no hole", (ToLongFunction<TwinRows>) x -> x.hole(2, false)},
            {"a pair", (ToLongFunction<TwinRows>) x -> x.pair(15, true)},
            {"a pair goes", (ToLongFunction<TwinRows>) x -> x.pair(1, false)},
            {"a pinned pair goes", (ToLongFunction<TwinRows>) x -> x.pair(2, false)},
            {"a pin", (ToLongFunction<TwinRows>) x -> x.pin(1, 4)},
            {"a pin moves", (ToLongFunction<TwinRows>) x -> x.pin(2, 3)},
            {"free", (ToLongFunction<TwinRows>) x -> x.pin(2, 0)},
            {"drawn", (ToLongFunction<TwinRows>) x -> x.drawn(60, 1)}
        };
        for (Object[] act : acts) {
            @SuppressWarnings("unchecked")
            ToLongFunction<TwinRows> call = (ToLongFunction<TwinRows>) act[1];
            TwinRows x = ofFewActs();
            Check.due(act[0] + " is done", call.applyAsLong(x) >= 0, true);
            Check.due(act[0] + ": acts", x.now(5), 3);
            Check.due(act[0] + ": undo", x.undo(), 2);
            Witness.dueLeft(act[0] + " and undo", FrameEdges::ofFewActs, y -> {
                call.applyAsLong(y);
                return y.undo();
            }, 2);
        }
    }

    /** 2 _ 2 1 1, the PAIR 2 PINNED; two acts can be undone. */
    private static TwinRows ofFewActs() {
        TwinRows x = Check.of("cells 5;hole 4;pair 1;pair 2 at 1;");
        x.hole(4, false);
        x.hole(2, true);
        return x;
    }

    private static void undoOfNoAct() {
        Sentences.test(25, "The latest kind(), hole(), pair() that was not NONE, pin() that was 0, drawn() above 0 is undone:");
        TwinRows x = ofFewActs();
        x.kind(0, 10);
        x.hole(2, true);
        x.pair(2, true);
        x.pin(2, 1);
        x.pin(1, 2);
        x.pin(1, 9);
        x.drawn(0, 1);
        x.drawn(61, 1);
        x.image(0);
        x.ways();
        x.row(0);
        x.behind();
        x.made(8);
        x.extended(3, 4);
        x.rank();
        Check.tell(x, "cells 19;");
        x.frame();
        Check.due("acts", x.now(5), 2);
        Check.due("undo", x.undo(), 1);
        dueFrame("the hole at 2 is undone", x, 5, 0, 3, 2);
        Check.due("undo", x.undo(), 0);
        dueFrame("the hole at 4 is there again", x, 5, 8, 3, 2);
        TwinRows y = Check.of("cells 1;hole 1;");
        int seed = DrawEdges.seedFor(new int[] {4}, new int[] {2});
        Check.due("drawn, nothing done", y.drawn(1, seed), 0);
        Check.due("is no act", y.undo(), NONE);
    }

    private static void undoKeepsEight() {
        Sentences.test(25, "(8 at most are kept);");
        for (int acts = 0; acts <= 18; acts++) {
            TwinRows x = Check.of("cells 18;");
            for (int place = 1; place <= acts; place++) {
                x.hole(place, true);
            }
            int kept = Math.min(acts, 8);
            Check.due("acts", x.now(5), kept);
            for (int more = kept - 1; more >= 0; more--) {
                Check.due("undo", x.undo(), more);
                Check.due("holes", x.now(1), (1 << acts - kept + more) - 1);
            }
            Check.due("undo", x.undo(), NONE);
            Check.due("holes", x.now(1), (1 << acts - kept) - 1);
        }
        // twelve acts, five of them undone, six more: of the first seven two are still kept
        TwinRows x = Check.of("cells 18;");
        for (int place = 1; place <= 12; place++) {
            x.hole(place, true);
        }
        for (int more = 7; more >= 3; more--) {
            Check.due("undo", x.undo(), more);
        }
        for (int place = 13; place <= 18; place++) {
            x.hole(place, true);
        }
        Check.due("acts", x.now(5), 8);
        for (int more = 7; more >= 0; more--) {
            Check.due("undo", x.undo(), more);
        }
        Check.due("holes", x.now(1), 0b11111);
        Check.due("undo", x.undo(), NONE);
    }

    private static void undoNone() {
        Sentences.test(25, "NONE: none is.");
        Witness.dueUnchangedWithoutCells("undo()", TwinRows::undo, NONE);
        Witness.dueLeft("undo()", () -> {
            TwinRows x = Witness.full();
            x.image(0);
            x.restore(0);
            return x;
        }, TwinRows::undo, NONE);
        Witness.dueLeft("undo() behind the last one", () -> {
            TwinRows x = Witness.full();
            for (int act = 0; act < 8; act++) {
                x.undo();
            }
            return x;
        }, TwinRows::undo, NONE);
    }

    private static void imageKept() {
        Sentences.test(26, "The FRAME is kept in place k (0, 1): true;");
        for (int k = 0; k <= 1; k++) {
            int place = k;
            TwinRows x = Witness.full();
            Check.due("image(" + k + ")", x.image(k), true);
            dueFrame("image(" + k + ")", x, 5, 2, 3, 2);
            Check.due("acts stay", x.now(5), 8);
            Check.due("the tape stays", x.now(6), 27);
            Check.due("the fault stays", x.fault(), 2);
            Check.due("the row stays", x.at(8), 4);
            x.kind(0, 1);
            Check.due("the other one", x.restore(1 - place), true);
            dueFrame("the other one is as it was", x, place == 0 ? 8 : 9, place == 0 ? 0 : 128,
                place == 0 ? 15 : 1 << 14 | 4, place == 0 ? 8 : 4);
            Check.due("this one", x.restore(place), true);
            dueFrame("this one", x, 5, 2, 3, 2);
            Check.due("its pin", x.pinned(2), 1);
        }
        TwinRows bare = new TwinRows();
        Check.due("without cells", bare.image(1), true);
        bare.kind(0, 4);
        Check.due("restored", bare.restore(1), true);
        dueFrame("without cells", bare, 0, 0, 0, 0);
    }

    private static void imageRefuses() {
        Sentences.test(26, "false: no such one.");
        for (int k : new int[] {-1, 2, 3, 32, 256, LEAST, MOST}) {
            Witness.dueUnchanged("image(" + k + ")", x -> x.image(k) ? 1 : 0, 0);
            Witness.dueUnchangedWithoutCells("image(" + k + ")", x -> x.image(k) ? 1 : 0, 0);
        }
    }

    private static void restoreAsKept() {
        Sentences.test(27, "It is as kept in place k");
        TwinRows x = Check.of("cells 8;hole 1;pair 4 at 2;pair 1;");
        x.image(0);
        x.pin(4, 0);
        x.hole(2, true);
        x.image(1);
        for (int round = 0; round < 3; round++) {
            Check.due("restore(0)", x.restore(0), true);
            dueFrame("restore(0)", x, 8, 1, 9, 8);
            Check.due("its pin", x.pinned(4), 2);
            x.kind(0, 9);
            x.pin(9, 1);
            Check.due("restore(1)", x.restore(1), true);
            dueFrame("restore(1)", x, 8, 3, 9, 0);
            x.hole(3, true);
            x.pair(4, false);
        }
        x.restore(0);
        x.pair(2, true);
        Check.due("ways are those of the frame now", x.ways(), 0);
        Check.tell(x, "cells 2;pair 1;");
        x.frame();
        Check.due("a new frame", x.ways(), 1);
        Check.due("an image outlasts it", x.restore(0), true);
        dueFrame("restored", x, 8, 1, 9, 8);
    }

    private static void restoreLeaves() {
        Sentences.test(27, "(the tape, what other calls told last stay; nothing can be undone): true;");
        for (int k = 0; k <= 1; k++) {
            TwinRows x = Witness.full();
            int[] row = Check.seen(x);
            int third = x.third(3, 5);
            Check.due("restore(" + k + ")", x.restore(k), true);
            Check.due("the tape stays", x.now(6), 27);
            Check.due("the fault stays", x.fault(), 2);
            Check.due("the row stays", Check.seen(x), row);
            Check.due("the third stays", x.third(3, 5), third);
            Check.due("nothing can be undone", x.now(5), 0);
            Check.due("undo", x.undo(), NONE);
            Check.due("the tape is what it was", x.frame(), 3);
            Check.due("the tape is what it was", x.now(0), 7);
        }
    }

    private static void restoreRefuses() {
        Sentences.test(27, "false: no such one,");
        for (int k : new int[] {-1, 2, 3, 32, 256, LEAST, MOST}) {
            Witness.dueUnchanged("restore(" + k + ")", x -> x.restore(k) ? 1 : 0, 0);
        }
        Sentences.test(27, "or nothing is kept there.");
        for (int k = 0; k <= 1; k++) {
            int place = k;
            Witness.dueUnchangedWithoutCells("restore(" + k + ")", x -> x.restore(place) ? 1 : 0, 0);
            Witness.dueLeft("restore(" + k + ") beside an image", () -> {
                TwinRows x = Check.ofKind(0, 4);
                x.image(1 - place);
                x.pin(1, 1);
                x.row(0);
                return x;
            }, x -> x.restore(place) ? 1 : 0, 0);
        }
    }
}
