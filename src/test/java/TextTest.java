/** Promises 1 to 5: a new object, the tape, the text of a FRAME and its FAULTS. */
public final class TextTest {
    private static final int NONE = TwinRows.NONE;

    public static void main(String[] args) {
        promise1NewObject();
        promise2Feed();
        promise3End();
        promise4Frame();
        promise4FrameClearsActs();
        promise5Fault();
        faultsOfTokens();
        faultsOfNumbers();
        faultsOfTakenPlaces();
        faultsOfTenthPair();
        longTexts();
        Check.finish();
    }

    private static void promise1NewObject() {
        TwinRows x = new TwinRows();
        int[] due = {0, 0, 0, 0, 1, 0, 0};
        for (int what = 0; what < due.length; what++) {
            Check.due("new: now(" + what + ")", x.now(what), due[what]);
        }
        Check.due("new: fault", x.fault(), 0);
        Check.due("new: ways", x.ways(), 1);
        Check.due("new: at", x.at(1), NONE);
        Check.due("new: first", x.first(1), NONE);
        Check.due("new: third", x.third(0, 1), NONE);
        Check.due("new: behind", x.behind(), NONE);
        Check.due("new: undo", x.undo(), NONE);
        Check.due("new: restore(0)", x.restore(0), false);
        Check.due("new: restore(1)", x.restore(1), false);
        Check.due("new: frame of the empty tape", x.frame(), 0);
    }

    private static void promise2Feed() {
        TwinRows x = new TwinRows();
        Check.due("feed highest first", x.feed(0x01010200, 0x02000000, -1, -1, -1), 20);
        x.kind(1, 2);
        x.end(5);
        Check.due("the fed bytes are 1 1 2 0 2", x.rank(), 0);
        for (int i = 1; i <= 17; i++) {
            Check.due("feed " + i, x.feed(1, 2, 3, 4, 5), 20 * i);
        }
        Check.due("feed beyond 340", x.feed(1, 2, 3, 4, 5), NONE);
        Check.due("the tape is full", x.now(6), 340);
        x.end(321);
        Check.due("feed to 341", x.feed(1, 2, 3, 4, 5), NONE);
        Check.due("nothing came", x.now(6), 321);
        x.end(320);
        Check.due("feed to 340", x.feed(1, 2, 3, 4, 5), 340);
        TwinRows y = new TwinRows();
        Check.tell(y, "cel");
        Check.tell(y, "ls 7;hole 7;");
        Check.due("a text told in two parts", y.frame(), 2);
        Check.due("its cells", y.now(0), 7);
    }

    private static void promise3End() {
        TwinRows x = new TwinRows();
        Check.due("end(0) of nothing", x.end(0), true);
        Check.due("end(1) of nothing", x.end(1), false);
        x.feed(0, 0, 0, 0, 0);
        Check.due("end(21)", x.end(21), false);
        Check.due("end(-1)", x.end(-1), false);
        Check.due("end(least)", x.end(Integer.MIN_VALUE), false);
        Check.due("end(most)", x.end(Integer.MAX_VALUE), false);
        Check.due("the tape stays", x.now(6), 20);
        Check.due("end(20)", x.end(20), true);
        Check.due("end(7)", x.end(7), true);
        Check.due("the tape is cut", x.now(6), 7);
        Check.due("end(8)", x.end(8), false);
        Check.due("feed behind what is left", x.feed(0, 0, 0, 0, 0), 27);
    }

    private static void promise4Frame() {
        dueFrame("", 0, 0, 0, 0, 0);
        dueFrame(" \n ", 0, 0, 0, 0, 0);
        dueFrame("cells 1;", 1, 1, 0, 0, 0);
        dueFrame("cells 18;", 1, 18, 0, 0, 0);
        dueFrame("\ncells\n07 ;\n hole 01;hole 7 ; pair 15;", 4, 7, 0b1000001, 1 << 14, 0);
        dueFrame("cells 8;pair 1 at 1;pair 2;pair 3;pair 4;", 5, 8, 0, 15, 1);
        dueFrame("cells 4;pair 3 at 1;pair 1 at 2;", 3, 4, 0, 5, 5);
        dueFrame("cells 18;pair 15 at 3;hole 17;hole 4;", 4, 18, 1 << 16 | 8, 1 << 14, 1 << 14);
        StringBuilder nine = new StringBuilder("cells 9;");
        for (int d = 7; d <= 15; d++) {
            nine.append("pair ").append(d).append(';');
        }
        dueFrame(nine.toString(), 10, 9, 0, 0x7fc0, 0);
        TwinRows x = Check.of("cells 8;pair 3 at 5;pair 1;");
        Check.due("pinned(3)", x.pinned(3), 5);
        Check.due("pinned(1)", x.pinned(1), 0);
    }

    private static void dueFrame(String text, int rows, int cells, int holes, int pairs, int pinned) {
        TwinRows x = Check.ofKind(1, 8);
        x.pin(1, 1);
        Check.tell(x, text);
        Check.due("frame of \"" + text + "\"", x.frame(), rows);
        Check.due("its fault", x.fault(), 0);
        Check.due("its cells", x.now(0), cells);
        Check.due("its holes", x.now(1), holes);
        Check.due("its pairs", x.now(2), pairs);
        Check.due("its pinned ones", x.now(3), pinned);
        Check.due("nothing can be undone", x.now(5), 0);
        Check.due("the tape is empty", x.now(6), 0);
    }

    private static void promise4FrameClearsActs() {
        TwinRows x = Check.ofKind(0, 4);
        x.pin(1, 1);
        Check.tell(x, "cells 4;pair 9 at 1;");
        x.frame();
        Check.due("a fault leaves the acts", x.now(5), 2);
        Check.due("and what is pinned", x.now(3), 1);
        Check.tell(x, "cells 4;");
        x.frame();
        Check.due("a frame takes them", x.undo(), NONE);
        Check.due("and its cells stay", x.now(0), 4);
        Check.due("and no pin is left", x.pair(1, true) + x.pinned(1), 1);
    }

    private static void promise5Fault() {
        TwinRows x = new TwinRows();
        Check.due("ahead of any", x.fault(), 0);
        Check.tell(x, "cells 19;");
        x.frame();
        Check.due("of a wrong one", x.fault(), 2);
        Check.due("asked again", x.fault(), 2);
        x.kind(0, 3);
        x.rank();
        Check.due("other calls leave it", x.fault(), 2);
        Check.tell(x, "cells 8;");
        x.frame();
        Check.due("of a right one", x.fault(), 0);
    }

    private static void faultsOfTokens() {
        Check.dueFault("hole 1;", 0, 1);
        Check.dueFault(";", 0, 1);
        Check.dueFault("7", 0, 1);
        Check.dueFault("Cells 4;", 0, 1);
        Check.dueFault("cells8;", 0, 1);
        Check.dueFault("8cells;", 0, 1);
        Check.dueFault("  cellsx 8;", 2, 1);
        Check.dueFault("cell 8;", 0, 1);
        Check.dueFault("\tcells 8;", 0, 1);
        Check.dueFault("cells\t8;", 5, 1);
        Check.dueFault("cells", 5, 1);
        Check.dueFault("cells  ", 7, 1);
        Check.dueFault("cells 4", 7, 1);
        Check.dueFault("cells 4 \n", 9, 1);
        Check.dueFault("cells ;", 6, 1);
        Check.dueFault("cells x;", 6, 1);
        Check.dueFault("cells 008;", 6, 1);
        Check.dueFault("cells 100;", 6, 1);
        Check.dueFault("cells 8a;", 6, 1);
        Check.dueFault("cells 8z;", 6, 1);
        Check.dueFault("cells z9;", 6, 1);
        Check.dueFault("cells 8{;", 7, 1);
        Check.dueFault("cells 8`;", 7, 1);
        Check.dueFault("cells 8/;", 7, 1);
        Check.dueFault("cells 8:;", 7, 1);
        Check.dueFault("cells -8;", 6, 1);
        Check.dueFault("cells 8;;", 8, 1);
        Check.dueFault("cells 8 8;", 8, 1);
        Check.dueFault("cells 8 pair 1;", 8, 1);
        Check.dueFault("cells 8;cells 8;", 8, 1);
        Check.dueFault("cells 8;pair", 12, 1);
        Check.dueFault("cells 8;pair;", 12, 1);
        Check.dueFault("cells 8;pair at 1;", 13, 1);
        Check.dueFault("cells 8;pair 1", 14, 1);
        Check.dueFault("cells 8;pair 1 2;", 15, 1);
        Check.dueFault("cells 8;pair 1 by 2;", 15, 1);
        Check.dueFault("cells 8;pair 1 at;", 17, 1);
        Check.dueFault("cells 8;pair 1 at 2 3;", 20, 1);
        Check.dueFault("cells 8;pair 1at 2;", 13, 1);
        Check.dueFault("cells 8;hole 1 at 2;", 15, 1);
        Check.dueFault("cells 8;at 2;", 8, 1);
        Check.dueFault("cells 8;holes 2;", 8, 1);
        Check.dueFault("cells 8;" + (char) 228 + ";", 8, 1);
        Check.dueFault("cells 8;" + (char) 0, 8, 1);
        Check.dueFault("cells 8;pair 1 at 2:", 19, 1);
        Check.dueFault("cells 8;pair 1 at 002", 18, 1);
    }

    private static void faultsOfNumbers() {
        Check.dueFault("cells 0;", 6, 2);
        Check.dueFault("cells 00;", 6, 2);
        Check.dueFault("cells 19", 6, 2);
        Check.dueFault("cells 99;", 6, 2);
        Check.dueFault("cells 8;hole 0;", 13, 2);
        Check.dueFault("cells 8;hole 9;", 13, 2);
        Check.dueFault("cells 8;pair 0;", 13, 2);
        Check.dueFault("cells 8;pair 16;", 13, 2);
        Check.dueFault("cells 8;pair 16 at 1;", 13, 2);
        Check.dueFault("cells 8;pair 2 at 0;", 18, 2);
        Check.dueFault("cells 8;pair 2 at 7;", 18, 2);
        Check.dueFault("cells 8;pair 2 at 9;", 18, 2);
        Check.dueFault("cells 8;pair 8 at 1;", 18, 2);
        Check.dueFault("cells 8;pair 15 at 1;", 19, 2);
        Check.due("a pin at the last place that it can have", Check.of("cells 8;pair 2 at 6;").pinned(2), 6);
        Check.due("a pair longer than the cells", Check.of("cells 8;pair 15;").now(2), 1 << 14);
    }

    private static void faultsOfTakenPlaces() {
        Check.dueFault("cells 8;hole 4;hole 4;", 20, 3);
        Check.dueFault("cells 8;hole 4;hole 04;", 20, 3);
        Check.dueFault("cells 8;pair 4;pair 4;", 20, 3);
        Check.dueFault("cells 8;pair 4;pair 4 at 1;", 20, 3);
        Check.dueFault("cells 8;pair 4 at 1;pair 4;", 25, 3);
        Check.dueFault("cells 8;pair 4 at 1;hole 1;", 25, 3);
        Check.dueFault("cells 8;pair 4 at 1;hole 5;", 25, 3);
        Check.dueFault("cells 8;hole 1;pair 4 at 1;", 25, 3);
        Check.dueFault("cells 8;hole 5;pair 4 at 1;", 25, 3);
        Check.dueFault("cells 8;pair 4 at 2;pair 2 at 2;", 30, 3);
        Check.dueFault("cells 8;pair 4 at 2;pair 2 at 6;", 30, 3);
        Check.dueFault("cells 8;pair 4 at 2;pair 1 at 1;", 30, 3);
        Check.dueFault("cells 8;pair 4 at 2;pair 1 at 5;", 30, 3);
        Check.dueFault("cells 8;hole 7;pair 7 at 7;", 25, 2);
        Check.due("a pin beside others", Check.of("cells 8;pair 4 at 2;hole 1;pair 1 at 3;").now(3), 9);
    }

    private static void faultsOfTenthPair() {
        StringBuilder text = new StringBuilder("cells 18;");
        for (int d = 1; d <= 9; d++) {
            text.append("pair ").append(d).append(';');
        }
        int place = text.length();
        Check.dueFault(text + "pair 10;", place, 4);
        Check.dueFault(text + "pair 1;", place, 4);
        Check.dueFault(text + "pair", place, 4);
        Check.dueFault(text + "pair1;", place, 1);
        Check.dueFault(text + "hole 19;", place + 5, 2);
        Check.due("nine and a hole", Check.of(text + "hole 18;").now(1), 1 << 17);
    }

    private static String spread(String text, int length) {
        StringBuilder wide = new StringBuilder(text);
        while (wide.length() < length) {
            wide.append(' ');
        }
        return wide.toString();
    }

    private static void longTexts() {
        Check.due("300 bytes", Check.of(spread("cells 9;", 300)).now(0), 9);
        Check.dueFault(spread("cells 9;", 301), 300, 1);
        Check.dueFault(spread("cells 9;", 340), 300, 1);
        Check.dueFault(spread("", 301), 300, 1);
        Check.dueFault(spread("cells 9", 300), 300, 1);
        Check.dueFault(spread("cells 9", 320), 300, 1);
        Check.dueFault(spread("cells 19;", 320), 6, 2);
        Check.dueFault(spread("cells 9;", 299) + "?", 299, 1);
        Check.dueFault(spread("cells 9;", 300) + "?", 300, 1);
        Check.dueFault(spread("cells 9;", 310) + "?", 300, 1);
        Check.due("a row up to byte 300", Check.of(spread("cells 9;", 293) + "hole 4;").now(1), 8);
        Check.dueFault(spread("cells 9;", 294) + "hole 4;", 300, 1);
        Check.dueFault(spread("cells 9;", 294) + "hole 0;", 299, 2);
        Check.dueFault(spread("cells 9;", 294) + "hole 10;", 299, 2);
        Check.dueFault(spread("cells 9;", 294) + "hole 08;", 300, 1);
        Check.dueFault(spread("cells 9;", 294) + "hole 111;", 299, 1);
        Check.dueFault(spread("cells 9;hole 8;", 294) + "hole 08;", 299, 3);
        Check.dueFault(spread("cells 9;", 295) + "hole 0;", 300, 1);
        Check.dueFault(spread("cells 9;", 298) + "hole 4;", 300, 1);
        Check.dueFault(spread("cells 9;", 298) + "holx 4;", 298, 1);
        Check.due("the sign as byte 300", Check.of(spread("cells 9", 299) + ";").now(0), 9);
        Check.dueFault(spread("cells 9", 300) + ";", 300, 1);
    }
}
