import java.util.Arrays;
import java.util.List;

/** The edges of FILLINGS and of promises 9 to 18. */
final class FillingEdges {
    private static final int NONE = TwinRows.NONE;
    private static final int LEAST = Integer.MIN_VALUE;
    private static final int MOST = Integer.MAX_VALUE;

    /** All FILLINGS of PLAIN of ORDER 4, in order. */
    private static final int[][] FOURS = {
        {1, 1, 3, 4, 2, 3, 2, 4}, {1, 1, 4, 2, 3, 2, 4, 3}, {2, 3, 2, 4, 3, 1, 1, 4}, {3, 4, 2, 3, 2, 4, 1, 1},
        {4, 1, 1, 3, 4, 2, 3, 2}, {4, 2, 3, 2, 4, 3, 1, 1}
    };

    /** The one FILLING of a FRAME of 18 CELLS: 15 stands at 3 and 18. */
    private static final int[] LONGEST = {0, 0, 15, 0, 0, 0, 0, 0, 1, 1, 0, 0, 0, 0, 0, 0, 0, 15};

    private FillingEdges() {
    }

    private static TwinRows ofLongest() {
        return Check.of(longestText() + "pair 15;pair 1;");
    }

    private static String longestText() {
        StringBuilder text = new StringBuilder("cells 18;");
        for (int place = 1; place <= 18; place++) {
            text.append(LONGEST[place - 1] == 0 ? "hole " + place + ";" : "");
        }
        return text.toString();
    }

    static void run() {
        fillings();
        toldAsRow();
        inOrder();
        seenFromBehind();
        throwsChangesNothing();
        ways();
        rowLooksAt();
        rowWithoutCells();
        rowThrows();
        atPlaces();
        atRefuses();
        firstStands();
        firstRefuses();
        rankOfFilling();
        rankOfNone();
        behindIsLookedAt();
        behindRefuses();
        standing();
        standingRefuses();
        may();
        mayRefuses();
        sure();
        sureWithoutAny();
        extended();
        extendedRefuses();
    }

    private static void dueWays(String text, int ways) {
        TwinRows x = Check.of(text);
        Check.due("ways of " + text, x.ways(), ways);
        Check.due("the last row of " + text, Check.rowOrThrows(x, ways) == Check.THROWS, true);
    }

    private static void fillings() {
        Sentences.test(Sentences.TERMS, "A FILLING of a FRAME: each PAIR stands at two places, the second one its DISTANCE behind"
            + " the first one, PINNED ones where they are PINNED, at each place that is no HOLE just one.");
        dueWays("cells 2;pair 1;", 1);
        dueWays("cells 3;pair 1;", 0);
        dueWays("cells 3;hole 3;pair 1;", 1);
        dueWays("cells 3;hole 2;pair 1;", 0);
        dueWays("cells 3;hole 2;pair 2;", 1);
        dueWays("cells 2;pair 3;", 0);
        dueWays("cells 4;pair 1;pair 3;", 1);
        dueWays("cells 4;pair 1 at 2;pair 3 at 1;", 1);
        dueWays("cells 4;pair 1 at 1;pair 3;", 0);
        dueWays("cells 8;pair 1 at 1;pair 2;pair 3;pair 4;", 2);
        dueWays("cells 8;pair 1 at 1;pair 2 at 4;pair 3;pair 4;", 1);
        dueWays("cells 8;pair 1 at 3;pair 2;pair 3;pair 4;", 0);
        // as far apart as can be, with HOLES between
        String far = "cells 18;";
        for (int place = 4; place <= 17; place++) {
            far += "hole " + place + ";";
        }
        dueWays(far + "pair 15;pair 1;", 1);
        dueWays(far + "pair 14;pair 2;", 0);
    }

    private static void toldAsRow() {
        Sentences.test(Sentences.TERMS, "It is told as a row: place by place the DISTANCE that stands there (a HOLE: 0).");
        TwinRows x = Check.of("cells 6;hole 2;hole 6;pair 1;pair 2;");
        Check.due("ways", x.ways(), 1);
        Check.due("row(0)", Check.rowOrThrows(x, 0), 2);
        Check.due("the row", Check.seen(x), 2, 0, 2, 1, 1, 0);
        Check.due("its rank", Check.rankOf(x, 2, 0, 2, 1, 1, 0), 0);
        Check.due("as it is not told", Check.rankOf(x, 2, 2, 2, 1, 1, 0), NONE);
    }

    private static void inOrder() {
        Sentences.test(Sentences.TERMS, "FILLINGS in order: place by place the least number; RANK: how many are ahead of it.");
        TwinRows x = Check.ofKind(0, 4);
        for (int rank = 0; rank < 6; rank++) {
            x.row(rank);
            Check.due("row " + rank, Check.seen(x), FOURS[rank]);
            Check.due("rank " + rank, Check.rankOf(x, FOURS[rank]), rank);
        }
        // numbers, not digits: 10 is more than 9, and what is told by two digits more than what is told by one
        String text = "cells 18;pair 1;pair 2;pair 3;pair 4;pair 5;pair 6;pair 7;pair 9;pair 10;";
        TwinRows y = Check.of(text);
        int ways = y.ways();
        int[] before = {};
        for (int rank = 0; rank < ways; rank += Math.max(1, ways / 10)) {
            y.row(rank);
            int[] row = Check.seen(y);
            Check.due("in order", Arrays.compare(before, row) < 0, true);
            before = row;
        }
        TwinRows z = Check.of(text);
        int tens = z.standing(10, 1);
        int nines = z.standing(9, 1);
        Check.due("there are some", tens > 0 && nines > 0, true);
        Check.due("10 stands first in the last one", Check.rowOrThrows(z, ways - 1), 10);
        Check.due("the first with 10", Check.rowOrThrows(z, ways - tens), 10);
        Check.due("the one ahead of it", Check.rowOrThrows(z, ways - tens - 1), 9);
        Check.due("the first with 9", Check.rowOrThrows(z, ways - tens - nines), 9);
        Check.due("the one ahead of it", Check.rowOrThrows(z, ways - tens - nines - 1), 7);
    }

    private static void seenFromBehind() {
        Sentences.test(Sentences.TERMS, "SEEN FROM BEHIND: the row told from its last place on: a FILLING, if HOLES and what is"
            + " PINNED lie so, too.");
        int[] turned = {5, 3, 4, 1, 2, 0};
        for (int rank = 0; rank < 6; rank++) {
            TwinRows x = Check.ofKind(0, 4);
            x.row(rank);
            Check.due("behind " + rank, x.behind(), turned[rank]);
            Check.due("the row", Check.seen(x), FOURS[turned[rank]]);
        }
        TwinRows hole = Check.of("cells 4;hole 1;hole 4;pair 1;");
        hole.row(0);
        Check.due("holes lie so", hole.behind(), 0);
        TwinRows other = Check.of("cells 3;hole 1;pair 1;");
        other.row(0);
        Check.due("holes do not", other.behind(), NONE);
        TwinRows pinned = Check.of("cells 4;pair 1 at 2;pair 3 at 1;");
        pinned.row(0);
        Check.due("pins lie so", pinned.behind(), 0);
        TwinRows notSo = Check.of("cells 8;pair 1 at 1;pair 2;pair 3;pair 4;");
        notSo.row(0);
        Check.due("pins do not", notSo.behind(), NONE);
    }

    private static void throwsChangesNothing() {
        Sentences.test(Sentences.TERMS, "A call that throws changes nothing.");
        // a full one has one FILLING
        for (int rank : new int[] {1, 2, 2655, 2656, 2657, -1, LEAST, MOST}) {
            Witness.dueUnchanged("row(" + rank + ")", x -> Check.rowOrThrows(x, rank), Check.THROWS);
            Witness.dueUnchangedWithoutCells("row(" + rank + ")", x -> Check.rowOrThrows(x, rank), Check.THROWS);
        }
    }

    private static void ways() {
        Sentences.test(9, "How many FILLINGS.");
        Check.due("no cells", new TwinRows().ways(), 1);
        dueWays("cells 1;hole 1;", 1);
        dueWays("cells 1;", 0);
        Check.due("plain of 9: the most", Check.ofKind(0, 9).ways(), 2656);
        Check.due("plain of 7: not even", Check.ofKind(0, 7).ways(), 0);
        TwinRows x = new TwinRows();
        x.pair(1, true);
        Check.due("a pair, no cells", x.ways(), 0);
        x.kind(0, 4);
        Check.due("behind kind()", x.ways(), 6);
        x.pin(1, 1);
        Check.due("behind pin()", x.ways(), 2);
        x.image(0);
        x.hole(8, true);
        Check.due("behind hole()", x.ways(), 0);
        x.undo();
        Check.due("behind undo()", x.ways(), 2);
        x.pair(1, false);
        Check.due("behind pair()", x.ways(), 0);
        x.restore(0);
        Check.due("behind restore()", x.ways(), 2);
        Check.due("drawn", x.drawn(1, DrawEdges.seedFor(new int[] {4, 8}, new int[] {0, 7})), 1);
        Check.due("behind drawn()", x.ways(), 0);
        Check.tell(x, "cells 2;pair 1;");
        x.frame();
        Check.due("behind frame()", x.ways(), 1);
        Check.tell(x, "cells 2;pair 1;?");
        x.frame();
        Check.due("behind a fault", x.ways(), 1);
        Witness.dueUnchanged("ways()", TwinRows::ways, 1);
        Witness.dueUnchangedWithoutCells("ways()", TwinRows::ways, 1);
    }

    private static void rowLooksAt() {
        Sentences.test(10, "The FILLING of a RANK is looked at: the DISTANCE at its first place");
        TwinRows x = Check.ofKind(0, 4);
        for (int rank = 5; rank >= 0; rank--) {
            Check.due("row(" + rank + ")", Check.rowOrThrows(x, rank), FOURS[rank][0]);
            Check.due("it is looked at", Check.seen(x), FOURS[rank]);
        }
        Check.due("a hole first", Check.rowOrThrows(Check.of("cells 3;hole 1;pair 1;"), 0), 0);
        Check.due("holes alone", Check.rowOrThrows(Check.of("cells 1;hole 1;"), 0), 0);
        TwinRows longest = Check.of(longestText() + "pair 15 at 3;pair 1;");
        Check.due("the longest, pinned", Check.rowOrThrows(longest, 0), 0);
        Check.due("the longest, pinned", Check.seen(longest), LONGEST);
        TwinRows most = Check.ofKind(0, 9);
        Check.due("the first of the most", Check.rowOrThrows(most, 0), 1);
        Check.due("the last of the most", Check.rowOrThrows(most, 2655), 9);
        Check.due("none behind it", Check.rowOrThrows(most, 2656), Check.THROWS);
        TwinRows y = Witness.full();
        Check.due("row(0)", Check.rowOrThrows(y, 0), 2);
        Check.due("acts stay", y.now(5), 8);
        Check.due("the tape stays", y.now(6), 27);
        Check.due("the frame stays", y.now(0), 5);
    }

    private static void rowWithoutCells() {
        Sentences.test(10, "(without CELLS: NONE).");
        TwinRows x = new TwinRows();
        Check.due("row(0)", Check.rowOrThrows(x, 0), NONE);
        Check.due("no second one", Check.rowOrThrows(x, 1), Check.THROWS);
        x.made(8);
        Check.due("row(0) behind another one", Check.rowOrThrows(x, 0), NONE);
        Check.due("the row of no places is looked at", x.at(1), NONE);
        Check.due("no distance", x.first(1), NONE);
        x.pair(1, true);
        Check.due("a pair, no cells: no filling", Check.rowOrThrows(x, 0), Check.THROWS);
    }

    private static void rowThrows() {
        Sentences.test(10, "NoSuchElementException: none such.");
        TwinRows x = Check.ofKind(0, 4);
        for (int rank : new int[] {6, 7, 100, 2656, -1, -2, LEAST, MOST}) {
            Check.due("row(" + rank + ")", Check.rowOrThrows(x, rank), Check.THROWS);
        }
        for (String text : List.of("cells 1;", "cells 2;pair 3;", "cells 4;pair 1;pair 2;")) {
            Check.due("row(0) of " + text, Check.rowOrThrows(Check.of(text), 0), Check.THROWS);
        }
    }

    private static void atPlaces() {
        Sentences.test(11, "Of the row that was looked at last (by row(), rank(), behind(), made()) the DISTANCE at a place (0: a"
            + " HOLE);");
        TwinRows x = Check.of("cells 5;hole 4;pair 1;pair 2;");
        x.row(0);
        Check.due("by row()", Check.seen(x), 1, 1, 2, 0, 2);
        x.made(6);
        Check.due("by made()", x.at(13), 6);
        Check.due("its hole", x.at(12), 0);
        Check.rankOf(x, 1, 1, 2, 0, 2);
        Check.due("by rank()", Check.seen(x), 1, 1, 2, 0, 2);
        Check.tell(x, "cells 5;hole 2;pair 1;pair 2;");
        x.frame();
        Check.due("behind()", x.behind(), 0);
        Check.due("by behind()", Check.seen(x), 2, 0, 2, 1, 1);
        Check.rowOrThrows(x, 1);
        Check.rankOf(x, 1, 1, 2, 0, 2);
        x.behind();
        x.made(7);
        Check.due("refused ones leave it", Check.seen(x), 2, 0, 2, 1, 1);
    }

    private static void atRefuses() {
        Sentences.test(11, "NONE: no such place, or ahead of any.");
        // a full one has looked at 1 1 3 4 2 3 2 4, or another row of 8 places
        Check.due("the first place", Witness.full().at(1) != NONE, true);
        Check.due("the last place", Witness.full().at(8) != NONE, true);
        for (int place : new int[] {0, 9, 10, 120, 121, 122, 256 + 1, -1, LEAST, MOST}) {
            Witness.dueUnchanged("at(" + place + ")", x -> x.at(place), NONE);
        }
        for (int place : new int[] {-1, 0, 1, 2, LEAST, MOST}) {
            Witness.dueUnchangedWithoutCells("at(" + place + ")", x -> x.at(place), NONE);
        }
        Check.due("a frame alone", Check.ofKind(0, 4).at(1), NONE);
    }

    private static void firstStands() {
        Sentences.test(12, "Where a DISTANCE stands first in it;");
        TwinRows x = Check.ofKind(0, 4);
        x.row(4);
        int[] first = {2, 6, 4, 1};
        for (int d = 1; d <= 4; d++) {
            Check.due("first(" + d + ")", x.first(d), first[d - 1]);
        }
        x.made(60);
        Check.due("first(60)", x.first(60), 60);
        Check.due("first(1)", x.first(1), 15);
        TwinRows far = Check.of("cells 16;hole 2;hole 3;hole 4;hole 5;hole 6;hole 7;hole 8;hole 9;hole 10;hole 11;hole 12;hole 13;"
            + "hole 14;hole 15;pair 15;");
        far.row(0);
        Check.due("first(15)", far.first(15), 1);
    }

    private static void firstRefuses() {
        Sentences.test(12, "NONE: it does not, or ahead of any.");
        for (int d : new int[] {0, 5, 6, 15, 16, 60, 61, 256 + 1, -1, LEAST, MOST}) {
            Witness.dueUnchanged("first(" + d + ")", x -> x.first(d), NONE);
        }
        for (int d : new int[] {-1, 0, 1, 15, 60, LEAST, MOST}) {
            Witness.dueUnchangedWithoutCells("first(" + d + ")", x -> x.first(d), NONE);
        }
        Check.due("a frame alone", Check.ofKind(0, 4).first(1), NONE);
        TwinRows x = Check.of("cells 5;hole 4;pair 1;pair 2;");
        x.row(0);
        Check.due("a hole is no distance", x.first(0), NONE);
        x.made(60);
        Check.due("first(61)", x.first(61), NONE);
        x.row(0);
        Check.due("of the row ahead of it", x.first(60), NONE);
    }

    private static void rankOfFilling() {
        Sentences.test(13, "The tape tells DISTANCES as bytes, place by place: the RANK of that FILLING (it is looked at);");
        for (int rank = 0; rank < 6; rank++) {
            TwinRows x = Check.ofKind(0, 4);
            Check.due("rank", Check.rankOf(x, FOURS[rank]), rank);
            Check.due("it is looked at", Check.seen(x), FOURS[rank]);
            Check.due("the tape is empty", x.now(6), 0);
        }
        TwinRows most = Check.ofKind(0, 9);
        most.row(2655);
        int[] last = Check.seen(most);
        Check.due("the last of the most", Check.rankOf(most, last), 2655);
        Check.due("on another object", Check.rankOf(Check.ofKind(0, 9), last), 2655);
        Check.due("the longest distance, at the last place", Check.rankOf(ofLongest(), LONGEST), 0);
        TwinRows bare = new TwinRows();
        bare.made(8);
        Check.due("no bytes, no cells", bare.rank(), 0);
        Check.due("the row of no places is looked at", bare.at(1), NONE);
        Check.due("holes alone", Check.rankOf(Check.of("cells 2;hole 1;hole 2;"), 0, 0), 0);
    }

    private static void dueNoRank(String why, int... row) {
        byte[] bytes = new byte[row.length];
        for (int i = 0; i < row.length; i++) {
            bytes[i] = (byte) row[i];
        }
        Witness.dueLeftButTape("rank: " + why, () -> {
            TwinRows x = Witness.full();
            x.end(0);
            Check.tell(x, bytes);
            return x;
        }, TwinRows::rank, NONE);
    }

    private static void rankOfNone() {
        Sentences.test(13, "NONE: it is none.");
        // the one FILLING is 2 0 2 1 1
        dueNoRank("no bytes");
        dueNoRank("a place less", 2, 0, 2, 1);
        dueNoRank("a place more", 2, 0, 2, 1, 1, 0);
        dueNoRank("a place more", 2, 0, 2, 1, 1, 1);
        dueNoRank("a full tape", new int[340]);
        dueNoRank("something at a hole", 2, 1, 2, 1, 1);
        dueNoRank("a hole elsewhere", 2, 0, 2, 0, 1);
        dueNoRank("against a pin", 1, 0, 2, 1, 2);
        dueNoRank("other numbers", 3, 0, 2, 1, 1);
        dueNoRank("other numbers", 2, 0, 2, 1, 2);
        dueNoRank("alike", 2, 0, 2, 2, 2);
        dueNoRank("what is no pair, at a hole", 2, 3, 2, 1, 1);
        dueNoRank("what is no pair, at a hole", 2, 15, 2, 1, 1);
        dueNoRank("15", 15, 0, 2, 1, 1);
        dueNoRank("16", 16, 0, 2, 1, 1);
        dueNoRank("128", 2, 128, 2, 1, 1);
        dueNoRank("255", 2, 255, 2, 1, 1);
        dueNoRank("the last is 17", 2, 0, 2, 1, 17);
        dueNoRank("as digits", '2', '0', '2', '1', '1');
        TwinRows bare = new TwinRows();
        Check.due("a byte, no cells", Check.rankOf(bare, 0), NONE);
        bare.pair(1, true);
        Check.due("no bytes, no cells, a pair", bare.rank(), NONE);
        Check.due("not even", Check.rankOf(Check.of("cells 1;"), 0), NONE);
        // digits that would carry: the place ahead one less, this one ten more
        Check.due("carried over", Check.rankOf(Check.ofKind(0, 4), 1, 0, 13, 4, 2, 3, 2, 4), NONE);
        rankOfWhatIsNoPair();
        rankOfOnePlaceOther();
    }

    /** What was a PAIR of the FRAME ahead of it, and one that is none at all, in place of one that is. */
    private static void rankOfWhatIsNoPair() {
        TwinRows x = Check.ofKind(0, 4);
        x.ways();
        x.kind(2, 3);
        Check.due("a filling", Check.rankOf(x, 3, 4, 2, 3, 2, 4), 0);
        for (int other : new int[] {0, 1, 5, 6, 15}) {
            Check.due(other + " for 2", Check.rankOf(x, 3, 4, other, 3, other, 4), NONE);
            Check.due(other + " for 3", Check.rankOf(x, other, 4, 2, other, 2, 4), NONE);
            Check.due(other + " for 4", Check.rankOf(x, 3, other, 2, 3, 2, other), NONE);
        }
        TwinRows nine = Check.ofKind(0, 9);
        for (int rank = 0; rank < 2656; rank += 120) {
            nine.row(rank);
            int[] row = new int[18];
            for (int place = 1; place <= 18; place++) {
                row[place - 1] = nine.at(place);
            }
            int place = Math.max(nine.first(9), 2);
            if (row[place - 1] == 9 && row[place - 2] < 9) {
                row[place - 1] = 10;
                row[place - 2]++;
                Check.due("one more, then what is no pair", Check.rankOf(Check.ofKind(0, 9), row), NONE);
            }
        }
    }

    private static void rankOfOnePlaceOther() {
        for (int place = 1; place <= 18; place++) {
            for (int other : new int[] {0, 1, 2, 9, 15}) {
                int[] row = LONGEST.clone();
                row[place - 1] = other;
                boolean isFilling = other == LONGEST[place - 1];
                TwinRows x = ofLongest();
                x.row(0);
                Check.due(other + " at " + place, Check.rankOf(x, row), isFilling ? 0 : NONE);
            }
        }
    }

    private static void behindIsLookedAt() {
        Sentences.test(14, "The row that was looked at last, SEEN FROM BEHIND, is looked at, if it is a FILLING of the FRAME now:"
            + " its RANK;");
        TwinRows x = Check.ofKind(0, 4);
        x.row(1);
        Check.due("behind()", x.behind(), 3);
        Check.due("it is looked at", Check.seen(x), FOURS[3]);
        Check.due("behind() again", x.behind(), 1);
        x.pin(1, 7);
        // now 3 4 2 3 2 4 1 1 and 4 2 3 2 4 3 1 1
        Check.due("the rank in the frame now", x.behind(), 0);
        x.undo();
        Check.due("and back", x.behind(), 1);
        x.kind(0, 8);
        x.made(8);
        Check.due("of a made one", x.behind() >= 0, true);
        Check.due("turned", Check.seen(x), 8, 6, 4, 2, 7, 2, 4, 6, 8, 3, 5, 7, 3, 1, 1, 5);
        TwinRows one = Check.ofKind(0, 1);
        one.row(0);
        Check.due("as it is from ahead", one.behind(), 0);
        TwinRows nine = Check.ofKind(0, 9);
        nine.made(9);
        int rank = nine.behind();
        Check.due("of 18 places", rank >= 0, true);
        int[] turned = {8, 6, 4, 2, 9, 2, 4, 6, 8, 3, 7, 5, 3, 9, 1, 1, 5, 7};
        Check.due("of 18 places", Check.seen(nine), turned);
        Check.due("its rank", Check.rankOf(Check.ofKind(0, 9), turned), rank);
        TwinRows bare = new TwinRows();
        bare.row(0);
        Check.due("the row of no places", bare.behind(), 0);
        TwinRows holes = Check.of("cells 3;hole 1;hole 2;hole 3;");
        holes.row(0);
        Check.due("holes alone", holes.behind(), 0);
    }

    private static void behindRefuses() {
        Sentences.test(14, "NONE: it is none, or ahead of any.");
        Witness.dueUnchangedWithoutCells("behind()", TwinRows::behind, NONE);
        Check.due("a frame alone", Check.ofKind(0, 4).behind(), NONE);
        // a full one has looked at a row of 8 places, and has 5
        Witness.dueUnchanged("behind()", TwinRows::behind, NONE);
        for (String text : List.of("cells 9;hole 1;pair 1;pair 2;pair 3;pair 4;", "cells 9;hole 9;pair 1;pair 2;pair 3;pair 4;",
            "cells 8;pair 2;pair 3;pair 4;pair 5;", "cells 8;pair 1 at 6;pair 2;pair 3;pair 4;", "cells 8;", "cells 7;", "")) {
            Witness.dueLeft("behind() of 1 1 3 4 2 3 2 4 in " + text, () -> {
                TwinRows x = Check.ofKind(0, 4);
                x.row(0);
                Check.tell(x, text);
                x.frame();
                x.hole(1, true);
                x.undo();
                return x;
            }, TwinRows::behind, NONE);
        }
        TwinRows longer = Check.ofKind(0, 9);
        longer.made(60);
        Check.due("longer than any frame", longer.behind(), NONE);
        TwinRows made = Check.ofKind(1, 6);
        made.made(6);
        Check.due("a hole lies otherwise", made.behind(), NONE);
        TwinRows bare = new TwinRows();
        bare.row(0);
        bare.pair(1, true);
        Check.due("no places, a pair", bare.behind(), NONE);
    }

    private static void standing() {
        Sentences.test(15, "In how many FILLINGS a PAIR stands first at a place;");
        int[][] due = {{2, 1, 0, 0, 0, 1, 2, 0}, {1, 1, 1, 1, 1, 1, 0, 0}, {1, 1, 2, 1, 1, 0, 0, 0}, {2, 1, 1, 2, 0, 0, 0, 0}};
        TwinRows x = Check.ofKind(0, 4);
        for (int d = 1; d <= 4; d++) {
            for (int place = 1; place <= 8; place++) {
                Check.due("standing(" + d + ", " + place + ")", x.standing(d, place), due[d - 1][place - 1]);
            }
        }
        TwinRows full = Witness.full();
        Check.due("pinned", full.standing(2, 1), 1);
        Check.due("its second place", full.standing(2, 3), 0);
        Check.due("at a hole", full.standing(1, 2), 0);
        Check.due("beside it", full.standing(1, 4), 1);
        Check.due("the last place", full.standing(1, 5), 0);
        full.hole(4, true);
        Check.due("no filling", full.standing(2, 1), 0);
        Witness.dueUnchanged("standing(2, 1)", y -> y.standing(2, 1), 1);
        Check.due("longer than the cells", Check.of("cells 2;pair 15;").standing(15, 2), 0);
        TwinRows longest = ofLongest();
        Check.due("the longest", longest.standing(15, 3), 1);
        longest.pin(15, 3);
        Check.due("pinned", longest.standing(15, 3), 1);
        longest.hole(9, true);
        Check.due("no filling any more", longest.standing(15, 3), 0);
    }

    private static void standingRefuses() {
        Sentences.test(15, "NONE: no such ones.");
        for (int place : new int[] {0, 6, 18, 19, 32, -1, LEAST, MOST}) {
            Witness.dueUnchanged("standing(1, " + place + ")", x -> x.standing(1, place), NONE);
        }
        for (int d : new int[] {0, 3, 15, 16, 33, -1, -31, LEAST, MOST}) {
            Witness.dueUnchanged("standing(" + d + ", 1)", x -> x.standing(d, 1), NONE);
        }
        Witness.dueUnchangedWithoutCells("standing(1, 1)", x -> x.standing(1, 1), NONE);
        TwinRows bare = new TwinRows();
        bare.pair(1, true);
        Check.due("a pair, no cells", bare.standing(1, 1), NONE);
        Check.due("cells, no pair", Check.of("cells 18;").standing(1, 1), NONE);
    }

    private static void may() {
        Sentences.test(16, "Places at which a PAIR stands first in some FILLING, as bits;");
        TwinRows x = Check.ofKind(0, 4);
        int[] due = {0b1100011, 0b111111, 0b11111, 0b1111};
        for (int d = 1; d <= 4; d++) {
            Check.due("may(" + d + ")", x.may(d), due[d - 1]);
        }
        Check.due("pinned", Witness.full().may(2), 1);
        Check.due("beside it", Witness.full().may(1), 8);
        x.hole(1, true);
        for (int d = 1; d <= 4; d++) {
            Check.due("no filling: may(" + d + ")", x.may(d), 0);
        }
        TwinRows bare = new TwinRows();
        bare.pair(15, true);
        Check.due("a pair, no cells", bare.may(15), 0);
        TwinRows longest = ofLongest();
        Check.due("the longest", longest.may(15), 4);
        longest.pin(15, 3);
        Check.due("pinned", longest.may(15), 4);
        longest.hole(9, true);
        Check.due("no filling any more", longest.may(15), 0);
        Witness.dueUnchanged("may(2)", y -> y.may(2), 1);
    }

    private static void mayRefuses() {
        Sentences.test(16, "NONE: no such PAIR.");
        for (int d : new int[] {0, 3, 15, 16, 33, -1, -31, LEAST, MOST}) {
            Witness.dueUnchanged("may(" + d + ")", x -> x.may(d), NONE);
            Witness.dueUnchangedWithoutCells("may(" + d + ")", x -> x.may(d), NONE);
        }
    }

    private static void sure() {
        Sentences.test(17, "PAIRS that stand at the same places in all FILLINGS (DISTANCE 1 the lowest bit;");
        TwinRows x = Check.ofKind(0, 4);
        Check.due("six fillings", x.sure(), 0);
        x.pin(1, 1);
        Check.due("two fillings", x.sure(), 1);
        x.pin(2, 4);
        Check.due("one filling", x.sure(), 15);
        // sure without a PIN: 9 can stand at 1 alone, or at 2
        TwinRows y = Check.of("cells 11;hole 11;pair 9;pair 1;pair 2;pair 3;pair 4;");
        Check.due("the ninth bit", y.sure(), 1 << 8);
        Check.due("more than one filling", y.ways() > 1, true);
        TwinRows far = Check.of("cells 16;hole 2;hole 3;hole 4;hole 5;hole 6;hole 7;hole 8;hole 9;hole 10;hole 11;hole 12;hole 13;"
            + "hole 14;hole 15;pair 15;");
        Check.due("the fifteenth bit", far.sure(), 1 << 14);
        Witness.dueUnchanged("sure()", TwinRows::sure, 3);
    }

    private static void sureWithoutAny() {
        Sentences.test(17, "without any: none).");
        Witness.dueUnchangedWithoutCells("sure()", TwinRows::sure, 0);
        for (String text : List.of("cells 1;", "cells 1;hole 1;", "cells 4;pair 1 at 1;pair 3;", "cells 4;pair 1 at 1;pair 2;",
            "cells 2;pair 3;", "cells 3;pair 1 at 1;")) {
            Check.due("sure of " + text, Check.of(text).sure(), 0);
        }
        TwinRows x = Witness.full();
        x.hole(4, true);
        Check.due("pinned, and no filling", x.sure(), 0);
        TwinRows longest = ofLongest();
        longest.pin(15, 3);
        Check.due("the longest, pinned", longest.sure(), 1 << 14 | 1);
        longest.hole(9, true);
        Check.due("no filling any more", longest.sure(), 0);
    }

    private static void extended() {
        Sentences.test(18, "How many FILLINGS there are of a FRAME of 2 n and 1 places, DISTANCES 1 to n, with one HOLE at a place"
            + " (n 1 to 7);");
        int[][] due = {{1, 0, 1}, {0, 1, 0, 1, 0}, {0, 2, 0, 2, 0, 2, 0}};
        TwinRows x = new TwinRows();
        for (int n = 1; n <= 3; n++) {
            for (int hole = 1; hole <= 2 * n + 1; hole++) {
                Check.due("extended(" + n + ", " + hole + ")", x.extended(n, hole), due[n - 1][hole - 1]);
            }
        }
        for (int n = 1; n <= 7; n++) {
            Check.due("extended(" + n + ", first)", x.extended(n, 1), Check.ofKind(0, n).ways());
            Check.due("extended(" + n + ", last)", x.extended(n, 2 * n + 1), Check.ofKind(0, n).ways());
            Check.due("extended(" + n + ", last but one)", x.extended(n, 2 * n), Check.ofKind(1, n).ways());
            Check.due("extended(" + n + ", second)", x.extended(n, 2), Check.ofKind(1, n).ways());
            Check.due("extended(" + n + ", in the midst)", x.extended(n, n + 1), Check.ofKind(3, n).ways());
        }
        Witness.dueUnchanged("extended(1, 1)", y -> y.extended(1, 1), 1);
        Witness.dueUnchanged("extended(7, 8)", y -> y.extended(7, 8), 44);
        Witness.dueUnchangedWithoutCells("extended(7, 14)", y -> y.extended(7, 14), 124);
    }

    private static void extendedRefuses() {
        Sentences.test(18, "NONE: no such ones.");
        for (int[] w : new int[][] {{0, 1}, {-1, 1}, {8, 1}, {8, 17}, {9, 1}, {LEAST, 1}, {MOST, 1}, {0, 0}, {-1, -1}}) {
            Witness.dueUnchanged("extended(" + w[0] + ", " + w[1] + ")", x -> x.extended(w[0], w[1]), NONE);
        }
        for (int n = 1; n <= 7; n++) {
            int order = n;
            for (int hole : new int[] {0, -1, 2 * n + 2, 2 * n + 3, 33, LEAST, MOST}) {
                Witness.dueUnchanged("extended(" + n + ", " + hole + ")", x -> x.extended(order, hole), NONE);
            }
        }
    }
}
