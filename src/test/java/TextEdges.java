import java.util.Arrays;
import java.util.List;

/** The edges of the text of a FRAME, and of promises 1 to 5. */
final class TextEdges {
    private static final int NONE = TwinRows.NONE;
    private static final int LEAST = Integer.MIN_VALUE;
    private static final int MOST = Integer.MAX_VALUE;

    private TextEdges() {
    }

    static void run() {
        blanks();
        words();
        numbers();
        runsOfLettersAndDigits();
        lengthOfText();
        rows();
        cells();
        holes();
        pairs();
        pins();
        ninePairs();
        firstFault();
        leastFaultOfOneToken();
        tokensThatCantCome();
        endOfText();
        beyond300();
        readWhole();
        numbersNotAsTold();
        toldTwice();
        takenPlaces();
        tenthPair();
        newFrame();
        newObject();
        feedAnswers();
        feedRefuses();
        endCuts();
        endRefuses();
        frameAnswers();
        frameEmptiesTape();
        frameStays();
        faultOfLatest();
        faultWithoutOne();
    }

    private static String sign(int number) {
        return String.valueOf((char) number);
    }

    private static boolean isBlank(int b) {
        return b == 32 || b == 10;
    }

    private static boolean isLetter(int b) {
        return b >= 97 && b <= 122;
    }

    private static boolean isDigit(int b) {
        return b >= 48 && b <= 57;
    }

    private static void dueRows(String text, int rows) {
        TwinRows x = new TwinRows();
        Check.tell(x, text);
        Check.due("frame of \"" + text + "\"", x.frame(), rows);
        Check.due("fault of \"" + text + "\"", x.fault(), 0);
    }

    private static String spread(String text, int length) {
        return text + " ".repeat(length - text.length());
    }

    private static void blanks() {
        Sentences.test(Sentences.TERMS, "TOKENS of a text, with blanks (32, 10) between them or not:");
        dueRows("cells 9;hole 1;pair 2 at 3;pair 5;", 4);
        dueRows(" \n cells\n9 \n; \nhole  1;\npair\n\n2\nat 3\n; pair 5 ;\n ", 4);
        for (int b = 0; b <= 255; b++) {
            if (isBlank(b)) {
                dueRows(sign(b) + "cells 4;", 1);
                dueRows("cells" + sign(b) + "4;", 1);
                dueRows("cells 4;" + sign(b), 1);
            } else {
                Check.dueFault(sign(b) + "cells 4;", 0, 1);
                Check.dueFault("cells" + sign(b) + "4;", isLetter(b) || isDigit(b) ? 0 : 5, 1);
                Check.dueFault("cells 4;" + sign(b), 8, 1);
            }
        }
    }

    private static void words() {
        Sentences.test(Sentences.TERMS, "WORDS: small letters;");
        for (String wrong : List.of("Cells", "CELLS", "cellS", "cell", "cellss", "c", "hole", "z")) {
            Check.dueFault(wrong + " 4;", 0, 1);
        }
        for (String wrong : List.of("ce`ls", "ce{ls", "cell@", "cell[")) {
            Check.dueFault(wrong + " 4;", 0, 1);
        }
        dueWordAlone("", "cells", " 4;");
        dueWordAlone("cells 8;", "hole", " 4;");
        dueWordAlone("cells 8;", "pair", " 4;");
        dueWordAlone("cells 8;pair 4 ", "at", " 1;");
    }

    /** A WORD of which one letter is another one, is missing or stands twice is not that WORD. */
    private static void dueWordAlone(String begin, String word, String rest) {
        Check.of(begin + word + rest);
        for (int i = 0; i < word.length(); i++) {
            String ahead = word.substring(0, i);
            String behind = word.substring(i + 1);
            for (String other : List.of("", sign(word.charAt(i) - 1), sign(word.charAt(i) + 1), sign(word.charAt(i) - 32),
                word.substring(i, i + 1).repeat(2))) {
                Check.dueFault(begin + ahead + other + behind + rest, begin.length(), 1);
            }
        }
    }

    private static void numbers() {
        Sentences.test(Sentences.TERMS, "NUMBERS: 1 or 2 digits; the sign ;");
        dueRows("cells 4;", 1);
        dueRows("cells 04;", 1);
        dueRows("cells 14;", 1);
        Check.dueFault("cells ;", 6, 1);
        Check.dueFault("cells 004;", 6, 1);
        Check.dueFault("cells 140;", 6, 1);
        Check.dueFault("cells 0000000000000000000000000004;", 6, 1);
        Check.dueFault("cells 4294967300;", 6, 1);
        Check.dueFault("cells +4;", 6, 1);
        Check.dueFault("cells -4;", 6, 1);
        for (int b = 0; b <= 255; b++) {
            if (isBlank(b)) {
                dueRows("cells 4" + sign(b) + ";", 1);
            } else if (isDigit(b)) {
                Check.dueFault("cells 4" + sign(b) + ";", 6, 2);
            } else if (b == ';') {
                Check.dueFault("cells 4" + sign(b) + ";", 8, 1);
            } else {
                Check.dueFault("cells 4" + sign(b) + ";", isLetter(b) ? 6 : 7, 1);
            }
        }
    }

    private static void runsOfLettersAndDigits() {
        Sentences.test(Sentences.TERMS,
            "(A WORD, NUMBER goes on as long as small letters and digits do; what is not as told is no TOKEN.)");
        dueRows("cells 8;pair 1 at 2;", 2);
        Check.dueFault("cells8;", 0, 1);
        Check.dueFault("cells 8;pair1 at 2;", 8, 1);
        Check.dueFault("cells 8;pair 1at 2;", 13, 1);
        Check.dueFault("cells 8;pair 1 at2;", 15, 1);
        Check.dueFault("cells 8;pair 1 at 2a;", 18, 1);
        Check.dueFault("cells 8;pair 1 at 2 a;", 20, 1);
        Check.dueFault("cells 8;4hole 1;", 8, 1);
        dueRows("cells 8;hole 1;hole 2;", 3);
        Check.dueFault("cells 8;hole 1,hole 2;", 14, 1);
    }

    private static void lengthOfText() {
        Sentences.test(Sentences.TERMS, "A FRAME is a text of at most 300 bytes:");
        dueRows(spread("cells 9;", 299), 1);
        dueRows(spread("cells 9;", 300), 1);
        Check.dueFault(spread("cells 9;", 301), 300, 1);
        dueRows(spread("cells 9;", 292) + "hole 4 ;", 2);
        dueRows(spread("", 300), 0);
        Check.dueFault(spread("", 301), 300, 1);
        Check.dueFault(spread("cells 9;", 340), 300, 1);
    }

    private static void rows() {
        Sentences.test(Sentences.TERMS, "{ ROW ; }. ROW:");
        dueRows("", 0);
        dueRows("\n", 0);
        dueRows("cells 1;", 1);
        Check.dueFault("cells 1", 7, 1);
        Check.dueFault("cells 1;;", 8, 1);
        Check.dueFault(";cells 1;", 0, 1);
        StringBuilder most = new StringBuilder("cells 18;");
        for (int place = 1; place <= 18; place++) {
            most.append("hole ").append(place).append(';');
        }
        for (int d = 7; d <= 15; d++) {
            most.append("pair ").append(d).append(';');
        }
        dueRows(most.toString(), 28);
        Check.dueFault(most.substring(0, most.length() - 1), most.length() - 1, 1);
    }

    private static void cells() {
        Sentences.test(Sentences.TERMS, "'cells' N (1 to 18; the first ROW, and no other one)");
        for (int n = 1; n <= 18; n++) {
            Check.due("cells " + n, Check.of("cells " + n + ";").now(0), n);
        }
        Check.dueFault("cells 0;", 6, 2);
        Check.dueFault("cells 00;", 6, 2);
        Check.due("cells 01", Check.of("cells 01;").now(0), 1);
        Check.dueFault("cells 19;", 6, 2);
        Check.dueFault("cells 99;", 6, 2);
        Check.dueFault("hole 1;", 0, 1);
        Check.dueFault("pair 1;cells 8;", 0, 1);
        Check.dueFault("cells 8;cells 8;", 8, 1);
        Check.dueFault("cells 8;hole 1;cells 8;", 15, 1);
    }

    private static void holes() {
        Sentences.test(Sentences.TERMS, "| 'hole' P (a PLACE, 1 to CELLS)");
        for (int n = 1; n <= 18; n++) {
            String begin = "cells " + n + ";hole ";
            Check.due(begin + 1, Check.of(begin + "1;").now(1), 1);
            Check.due(begin + n, Check.of(begin + n + ";").now(1), 1 << n - 1);
            Check.dueFault(begin + "0;", begin.length(), 2);
            Check.dueFault(begin + (n + 1) + ";", begin.length(), 2);
            Check.dueFault(begin + "99;", begin.length(), 2);
        }
    }

    private static void pairs() {
        Sentences.test(Sentences.TERMS, "| 'pair' D (a PAIR: its DISTANCE, 1 to 15)");
        for (int n : new int[] {1, 15, 18}) {
            String begin = "cells " + n + ";pair ";
            Check.due(begin + 1, Check.of(begin + "1;").now(2), 1);
            Check.due(begin + 15, Check.of(begin + "15;").now(2), 1 << 14);
            Check.due(begin + 15 + " is free", Check.of(begin + "15;").pinned(15), 0);
            Check.dueFault(begin + "0;", begin.length(), 2);
            Check.dueFault(begin + "16;", begin.length(), 2);
            Check.dueFault(begin + "99;", begin.length(), 2);
        }
    }

    private static void pins() {
        Sentences.test(Sentences.TERMS, "| 'pair' D 'at' P (it is PINNED there: its first one stands at P, its second one at P"
            + " and D, none beyond CELLS).");
        for (int n = 1; n <= 18; n++) {
            for (int d = 1; d <= 15; d++) {
                String begin = "cells " + n + ";pair " + d + " at ";
                for (int p = 0; p <= n + 1; p++) {
                    if (p >= 1 && p + d <= n) {
                        TwinRows x = Check.of(begin + p + ";");
                        Check.due(begin + p, x.pinned(d), p);
                        Check.due(begin + p + " takes its first place", x.hole(p, true), NONE);
                        Check.due(begin + p + " takes its second place", x.hole(p + d, true), NONE);
                    } else {
                        Check.dueFault(begin + p + ";", begin.length(), 2);
                    }
                }
            }
        }
        Check.due("the longest", Check.of("cells 18;pair 15 at 3;").pinned(15), 3);
    }

    private static String pairsText(int from, int to) {
        StringBuilder text = new StringBuilder("cells 18;");
        for (int d = from; d <= to; d++) {
            text.append("pair ").append(d).append(';');
        }
        return text.toString();
    }

    private static void ninePairs() {
        Sentences.test(Sentences.TERMS, "9 PAIRS at most, each DISTANCE once.");
        dueRows(pairsText(1, 8), 9);
        dueRows(pairsText(1, 9), 10);
        Check.dueFault(pairsText(1, 10), pairsText(1, 9).length(), 4);
        Check.due("nine", Check.of(pairsText(7, 15)).now(2), 0x7fc0);
        for (int d = 1; d <= 15; d++) {
            Check.dueFault("cells 18;pair " + d + ";pair " + d + ";", d > 9 ? 22 : 21, 3);
        }
    }

    private static void firstFault() {
        Sentences.test(Sentences.TERMS, "FAULTS, the first along the text,");
        Check.dueFault("cells 8;hole 4;hole 4;hole 9;?", 20, 3);
        Check.dueFault("cells 8;hole 9;hole 4;hole 4;?", 13, 2);
        Check.dueFault("cells 8;?;hole 9;", 8, 1);
        Check.dueFault(pairsText(1, 9) + "pair 0;", pairsText(1, 9).length(), 4);
        Check.dueFault(pairsText(1, 9) + "pair ?", pairsText(1, 9).length(), 4);
        Check.dueFault("cells 18;hole 19;" + pairsText(1, 10).substring(9), 14, 2);
        Check.dueFault("cells 19", 6, 2);
        Check.dueFault("cells 8;pair 1;pair 1 at 9;", 20, 3);
        Check.dueFault("cells 8;pair 16 at 9;", 13, 2);
    }

    private static void leastFaultOfOneToken() {
        Sentences.test(Sentences.TERMS, "of one TOKEN the least:");
        // the first one at a HOLE, at what is PINNED, and the second one beyond CELLS
        Check.dueFault("cells 8;hole 7;pair 2 at 7;", 25, 2);
        Check.dueFault("cells 8;pair 1 at 7;pair 2 at 7;", 30, 2);
        Check.dueFault("cells 8;hole 6;pair 2 at 6;", 25, 3);
        // a tenth that is no TOKEN
        Check.dueFault(pairsText(1, 9) + "pair1;", pairsText(1, 9).length(), 1);
        Check.dueFault(pairsText(1, 9) + "pairs 1;", pairsText(1, 9).length(), 1);
        // a DISTANCE told twice as no NUMBER
        Check.dueFault("cells 8;pair 1;pair 001;", 20, 1);
    }

    private static final String[] TOKENS = {"cells", "hole", "pair", "at", ";", "1", "x", "123", "1x", "x1", "?", "A", "\0"};

    /** All that can come behind a beginning, with blanks ahead of it. */
    private static void dueCanCome(String begin, String... can) {
        for (String token : TOKENS) {
            String text = begin + token;
            if (!Arrays.asList(can).contains(token)) {
                Check.dueFault(text, begin.length(), 1);
                Check.dueFault(text + " ;", begin.length(), 1);
            } else if (token.equals(";")) {
                dueRows(text, (int) text.chars().filter(c -> c == ';').count());
            } else {
                Check.dueFault(text, text.length(), 1);
                Check.dueFault(text + " \n", text.length() + 2, 1);
            }
        }
    }

    private static void tokensThatCantCome() {
        Sentences.test(Sentences.TERMS, "1 no TOKEN, or one that can't come (at it;");
        dueCanCome("", "cells");
        dueCanCome(" \n", "cells");
        dueCanCome("cells ", "1");
        dueCanCome("cells 8 ", ";");
        dueCanCome("cells 8; ", "hole", "pair");
        dueCanCome("cells 8;hole ", "1");
        dueCanCome("cells 8;hole 2 ", ";");
        dueCanCome("cells 8;hole 2;", "hole", "pair");
        dueCanCome("cells 8;pair ", "1");
        dueCanCome("cells 8;pair 2 ", "at", ";");
        dueCanCome("cells 8;pair 2;", "hole", "pair");
        dueCanCome("cells 8;pair 2 at ", "1");
        dueCanCome("cells 8;pair 2 at 3 ", ";");
        dueCanCome("cells 8;pair 2 at 3;", "hole", "pair");
    }

    private static void endOfText() {
        Sentences.test(Sentences.TERMS, "the end: how many bytes there are;");
        String text = "cells 8;pair 2 at 3;hole 1;";
        for (int length = 0; length <= text.length(); length++) {
            String part = text.substring(0, length);
            // within a WORD its beginning is a WORD that can't come
            int begin = length;
            while (begin > 0 && isLetter(part.charAt(begin - 1))) {
                begin--;
            }
            boolean isWhole = List.of("cells", "pair", "at", "hole").contains(part.substring(begin));
            if (part.isBlank() || part.endsWith(";")) {
                dueRows(part, (int) part.chars().filter(c -> c == ';').count());
            } else if (begin == length || isWhole) {
                Check.dueFault(part, length, 1);
                Check.dueFault(part + "  ", length + 2, 1);
            } else {
                Check.dueFault(part, begin, 1);
            }
        }
        Check.dueFault(spread("cells 9", 300), 300, 1);
        Check.dueFault(spread("cells 9", 299), 299, 1);
    }

    private static void beyond300() {
        Sentences.test(Sentences.TERMS, "300, if there are more and no FAULT is ahead:");
        Check.dueFault(spread("cells 9;", 300) + "hole 1;", 300, 1);
        Check.dueFault(spread("cells 9;", 300) + "?", 300, 1);
        Check.dueFault(spread("cells 9;", 300) + ";", 300, 1);
        Check.dueFault(spread("cells 9;", 309) + "?", 300, 1);
        Check.dueFault(spread("cells 9", 301), 300, 1);
        Check.dueFault(spread("cells", 301), 300, 1);
        Check.dueFault(spread("cells 9", 300) + ";", 300, 1);
        dueRows(spread("cells 9", 299) + ";", 1);
        Check.dueFault(spread("cells 9", 299) + "; ", 300, 1);
        Check.dueFault(spread("cells 0;", 340), 6, 2);
        Check.dueFault(spread("cells 9;hole 9;hole 9;", 301), 20, 3);
        Check.dueFault(spread(pairsText(1, 10), 301), pairsText(1, 9).length(), 4);
        Check.dueFault(spread("cells 9;", 299) + "?;", 299, 1);
        Check.dueFault(spread("cells 9;", 299) + ";;", 299, 1);
        // a fault behind byte 300 is none that is ahead
        Check.dueFault(spread("cells 9;hole", 300) + "0;", 300, 1);
    }

    private static void readWhole() {
        Sentences.test(Sentences.TERMS, "TOKENS that begin ahead of it are read whole);");
        Check.dueFault(spread("cells 9;", 297) + "hole 1;", 300, 1);
        Check.dueFault(spread("cells 9;", 299) + "hole 1;", 300, 1);
        Check.dueFault(spread("cells 9;", 299) + "holes 1;", 299, 1);
        Check.dueFault(spread("cells 9;", 299) + "h ole 1;", 299, 1);
        Check.dueFault(spread("cells 9;", 299) + "x".repeat(41), 299, 1);
        Check.dueFault(spread("cells 9;", 299) + "cells 1;", 299, 1);
        Check.dueFault(spread("cells 9;hole", 299) + "9;", 300, 1);
        Check.dueFault(spread("cells 9;hole", 299) + "09;", 300, 1);
        Check.dueFault(spread("cells 9;hole", 299) + "10;", 299, 2);
        Check.dueFault(spread("cells 9;hole", 299) + "109;", 299, 1);
        Check.dueFault(spread("cells 9;hole 9;hole", 299) + "09;", 299, 3);
        Check.dueFault(spread("cells 9;pair 8 at", 299) + "02;", 299, 2);
        Check.dueFault(spread("cells 9;pair 8 at", 299) + "01;", 300, 1);
        Check.dueFault(spread(pairsText(1, 9), 299) + "pair 1;", 299, 4);
        Check.dueFault(spread(pairsText(1, 9), 299) + "pairs 1;", 299, 1);
        Check.dueFault(spread(pairsText(1, 9), 300) + "pair 1;", 300, 1);
    }

    private static void numbersNotAsTold() {
        Sentences.test(Sentences.TERMS, "2 a NUMBER that is not as told (at it);");
        Check.dueFault("cells  0 ;", 7, 2);
        Check.dueFault("cells\n19", 6, 2);
        Check.dueFault("cells 8;hole  9 ;", 14, 2);
        Check.dueFault("cells 8;pair  16 at 1;", 14, 2);
        Check.dueFault("cells 8;pair 2  at  7 ;", 20, 2);
        Check.dueFault("cells 8;pair 2 at 99", 18, 2);
    }

    private static void toldTwice() {
        Sentences.test(Sentences.TERMS, "3 a HOLE, a DISTANCE told twice (at the NUMBER),");
        Check.dueFault("cells 8;hole 1;hole  1;", 21, 3);
        Check.dueFault("cells 8;hole 8;hole 08;", 20, 3);
        Check.due("two holes", Check.of("cells 8;hole 7;hole 8;").now(1), 192);
        Check.dueFault("cells 8;pair 8;hole 8;pair 8;", 27, 3);
        Check.dueFault("cells 8;pair 2 at 1;pair 2 at 5;", 25, 3);
        Check.dueFault("cells 8;pair 2 at 1;pair  02;", 26, 3);
        Check.due("a hole and a distance alike", Check.of("cells 8;hole 2;pair 2;").now(2), 2);
    }

    private static void takenPlaces() {
        Sentences.test(Sentences.TERMS, "a HOLE at a place of what is PINNED, a PIN at a HOLE or at a place of what is PINNED"
            + " (at its P);");
        for (int place = 1; place <= 8; place++) {
            boolean isTaken = place == 3 || place == 6;
            String hole = "cells 8;pair 3 at 3;hole " + place + ";";
            String pinAtHole = "cells 8;hole " + place + ";pair 3 at 3;";
            if (isTaken) {
                Check.dueFault(hole, 25, 3);
                Check.dueFault(pinAtHole, 25, 3);
            } else {
                dueRows(hole, 3);
                dueRows(pinAtHole, 3);
            }
        }
        for (int place = 1; place <= 6; place++) {
            String pin = "cells 8;pair 3 at 3;pair 2 at " + place + ";";
            if (place == 3 || place == 6 || place == 1 || place == 4) {
                Check.dueFault(pin, 30, 3);
            } else {
                dueRows(pin, 3);
            }
        }
        dueRows("cells 8;pair 3;hole 3;", 3);
    }

    private static void tenthPair() {
        Sentences.test(Sentences.TERMS, "4 a tenth PAIR (at 'pair').");
        String nine = pairsText(1, 9);
        Check.dueFault(nine + "  pair 10;", nine.length() + 2, 4);
        Check.dueFault(nine + "pair", nine.length(), 4);
        Check.dueFault(nine + "pair 1;", nine.length(), 4);
        Check.dueFault(nine + "pair 10 at 1;", nine.length(), 4);
        Check.dueFault(nine + "hole 1;pair 10;", nine.length() + 7, 4);
        dueRows(nine + "hole 1;", 11);
    }

    private static void newFrame() {
        Sentences.test(Sentences.TERMS, "A new FRAME: nothing can be undone.");
        for (String text : List.of("", "cells 4;", "cells 8;pair 1 at 1;pair 2;pair 3;pair 4;")) {
            TwinRows x = Witness.full();
            Check.due("acts ahead of it", x.now(5), 8);
            x.end(0);
            Check.tell(x, text);
            int rows = x.frame();
            Check.due("a frame", rows >= 0, true);
            Check.due("acts", x.now(5), 0);
            int cells = x.now(0);
            Check.due("undo", x.undo(), NONE);
            Check.due("cells", x.now(0), cells);
            Check.due("an act behind it", x.kind(0, 1), 2);
            Check.due("it is the one act", x.undo(), 0);
            Check.due("and the frame comes back", x.now(0), cells);
        }
    }

    private static void newObject() {
        Sentences.test(1, "No CELLS; an empty tape.");
        TwinRows x = new TwinRows();
        int[] due = {0, 0, 0, 0, 1, 0, 0};
        for (int what = 0; what < due.length; what++) {
            Check.due("now(" + what + ")", x.now(what), due[what]);
        }
        Check.due("end(1)", x.end(1), false);
        Check.due("hole(1, true)", x.hole(1, true), NONE);
        Check.due("frame()", x.frame(), 0);
        Check.due("a full tape", fillTape(x), 340);
        TwinRows y = Check.ofKind(0, 4);
        y.feed(1, 2, 3, 4, 5);
        Check.due("one object is not another", new TwinRows().now(0) + new TwinRows().now(6), 0);
    }

    private static int fillTape(TwinRows x) {
        int last = 0;
        for (int i = 0; i < 17; i++) {
            last = x.feed(i, i, i, i, i);
        }
        return last;
    }

    private static void feedAnswers() {
        Sentences.test(2, "Twenty bytes come behind the tape, of each number the highest first: how many it has;");
        TwinRows x = new TwinRows();
        for (int i = 1; i <= 17; i++) {
            Check.due("feed " + i, x.feed(LEAST, -1, 0, 1, MOST), 20 * i);
        }
        TwinRows y = new TwinRows();
        y.feed('c' << 24 | 'e' << 16 | 'l' << 8 | 'l', 's' << 24 | ' ' << 16 | '9' << 8 | ';',
            'h' << 24 | 'o' << 16 | 'l' << 8 | 'e', ' ' << 24 | '8' << 16 | ';' << 8 | 'p',
            'a' << 24 | 'i' << 16 | 'r' << 8 | ' ');
        Check.due("more", y.feed('7' << 24 | ';' << 16 | 0xff << 8, 0, 0, 0, 0), 40);
        y.end(22);
        Check.due("the text", y.frame(), 3);
        Check.due("cells", y.now(0), 9);
        Check.due("hole", y.now(1), 128);
        Check.due("pair", y.now(2), 64);
        // bytes above 127 stay what they are, and the byte at each place of twenty is seen
        for (int i = 0; i < 20; i++) {
            int[] n = {0x20202020, 0x20202020, 0x20202020, 0x20202020, 0x20202020};
            n[i / 4] ^= (0x20 ^ 0xe4) << 24 - 8 * (i % 4);
            TwinRows z = new TwinRows();
            z.feed(n[0], n[1], n[2], n[3], n[4]);
            Check.due("byte " + i, z.frame(), -1 - i);
        }
    }

    private static void feedRefuses() {
        Sentences.test(2, "NONE, and none come, if it would have more than 340.");
        for (int length = 318; length <= 340; length++) {
            TwinRows x = new TwinRows();
            fillTape(x);
            x.end(length);
            int due = length <= 320 ? length + 20 : NONE;
            Check.due("feed to a tape of " + length, x.feed(1, 1, 1, 1, 1), due);
            Check.due("the tape of " + length, x.now(6), due == NONE ? length : due);
        }
        Witness.dueLeft("feed", () -> {
            TwinRows x = Witness.full();
            x.end(0);
            Check.tell(x, spread("cells 4;", 321));
            return x;
        }, x -> x.feed(-1, -1, -1, -1, -1), NONE);
        TwinRows full = new TwinRows();
        fillTape(full);
        Check.due("refused", full.feed(0, 0, 0, 0, 0), NONE);
        Check.due("room again", full.end(0) ? full.feed(0, 0, 0, 0, 0) : NONE, 20);
    }

    private static void endCuts() {
        Sentences.test(3, "The tape has its first n bytes alone: true;");
        for (int n = 0; n <= 27; n++) {
            TwinRows x = new TwinRows();
            Check.tell(x, "cells 8;hole 3;pair 2 at 5;");
            Check.due("end(" + n + ")", x.end(n), true);
            Check.due("bytes", x.now(6), n);
            Check.due("end(" + n + ") again", x.end(n), true);
            Check.due("end(" + (n + 1) + ")", x.end(n + 1), false);
        }
        TwinRows x = new TwinRows();
        Check.tell(x, "cells 8;hole 3;pair 2 at 5;");
        x.end(8);
        Check.due("what was cut does not come back", x.feed(0x20202020, 0x20202020, 0x20202020, 0x20202020, 0x20202020), 28);
        Check.due("the first bytes alone", x.frame(), 1);
        Check.due("end(0) without any", x.end(0), true);
        fillTape(x);
        Check.due("end(340)", x.end(340), true);
        Check.due("end(339)", x.end(339), true);
        Check.due("end(340) then", x.end(340), false);
    }

    private static void endRefuses() {
        Sentences.test(3, "false, if it has not so many, or n is below 0.");
        for (int n : new int[] {28, 29, 340, 341, MOST, -1, -2, LEAST}) {
            Witness.dueLeft("end(" + n + ")", Witness::full, x -> x.end(n) ? 1 : 0, 0);
        }
        for (int n : new int[] {1, 20, MOST, -1, LEAST}) {
            Witness.dueUnchangedWithoutCells("end(" + n + ")", x -> x.end(n) ? 1 : 0, 0);
        }
        Check.due("bytes of a full one", Witness.full().now(6), 27);
        Check.due("all of them", Witness.full().end(27), true);
    }

    private static void frameAnswers() {
        Sentences.test(4, "is the FRAME now: how many ROWS;");
        dueRows("", 0);
        dueRows("cells 3;", 1);
        dueRows("cells 3;hole 2;", 2);
        TwinRows x = Witness.full();
        Check.due("frame", x.frame(), 3);
        Check.due("cells", x.now(0), 7);
        Check.due("holes", x.now(1), 4);
        Check.due("pairs", x.now(2), 2);
        Check.due("pinned", x.pinned(2), 4);
        Check.due("an empty tape", x.frame(), 0);
        for (int what = 0; what <= 3; what++) {
            Check.due("now(" + what + ") behind an empty tape", x.now(what), 0);
        }
        Check.due("no pair", x.pinned(2), NONE);
    }

    private static void frameEmptiesTape() {
        Sentences.test(4, "The tape (empty then, here and below, even with a FAULT)");
        TwinRows x = Witness.full();
        x.frame();
        Check.due("behind frame()", x.now(6), 0);
        Check.tell(x, "cells 4;?");
        Check.due("a fault", x.frame(), -9);
        Check.due("behind a fault", x.now(6), 0);
        Check.due("the next feed", x.feed(0, 0, 0, 0, 0), 20);
        Check.due("below: rank()", x.rank(), NONE);
        Check.due("behind rank() that is NONE", x.now(6), 0);
        TwinRows y = Witness.fullWithRow();
        Check.due("below: rank()", y.rank(), 0);
        Check.due("behind rank()", y.now(6), 0);
    }

    private static void frameStays() {
        Sentences.test(4, "-1 less the place of a FAULT: it stays.");
        Object[][] texts = {
            {"?", 0}, {"cells", 5}, {"cells 0;", 6}, {"cells 4;hole 1;hole 1;", 20}, {pairsText(1, 10), 72},
            {spread("cells 4;", 301), 300}
        };
        for (Object[] text : texts) {
            Witness.dueLeftButTape("frame of \"" + text[0] + "\"", () -> {
                TwinRows x = Witness.full();
                x.end(0);
                Check.tell(x, (String) text[0]);
                return x;
            }, TwinRows::frame, -1 - (int) text[1]);
        }
    }

    private static void faultOfLatest() {
        Sentences.test(5, "The kind of the FAULT of the latest frame();");
        TwinRows x = new TwinRows();
        String[] texts = {"?", "cells 0;", "cells 4;hole 1;hole 1;", pairsText(1, 10)};
        for (int round = 0; round < 2; round++) {
            for (int i = 0; i < texts.length; i++) {
                Check.tell(x, texts[i]);
                x.frame();
                Check.due("fault of " + texts[i], x.fault(), i + 1);
                Check.due("again", x.fault(), i + 1);
            }
        }
        x.kind(0, 4);
        x.rank();
        x.row(0);
        x.image(0);
        x.restore(0);
        x.undo();
        x.feed(0, 0, 0, 0, 0);
        x.end(0);
        Check.due("other calls leave it", x.fault(), 4);
    }

    private static void faultWithoutOne() {
        Sentences.test(5, "0 without one and ahead of any.");
        TwinRows x = new TwinRows();
        Check.due("ahead of any", x.fault(), 0);
        x.kind(9, 9);
        x.rank();
        Check.due("still ahead of any", x.fault(), 0);
        for (String text : List.of("", "cells 4;")) {
            Check.tell(x, "cells 0;");
            x.frame();
            Check.due("with one", x.fault(), 2);
            Check.tell(x, text);
            x.frame();
            Check.due("without one", x.fault(), 0);
        }
    }
}
