import java.util.Arrays;
import java.util.function.Function;
import java.util.function.Supplier;
import java.util.function.ToLongFunction;

/** All that other calls show of an object, to see what a call has left as it was. */
final class Witness {
    private static final int MOST_PLACES = 121;
    private static final int MOST_DISTANCE = 60;

    private Witness() {
    }

    /** An object in which everything that a call might spoil is there; the tape tells a FRAME. */
    static TwinRows full() {
        TwinRows x = fullAheadOfTape();
        Check.tell(x, "cells 7;hole 3;pair 2 at 4;");
        return x;
    }

    /** The same; the tape tells the one FILLING of the FRAME. */
    static TwinRows fullWithRow() {
        TwinRows x = fullAheadOfTape();
        Check.tell(x, "\2\0\2\1\1");
        return x;
    }

    /** Two images, a FAULT, more acts than are kept, a row of another FRAME; now: 2 _ 2 1 1, the PAIR 2 PINNED. */
    private static TwinRows fullAheadOfTape() {
        TwinRows x = Check.of("cells 9;hole 8;pair 3 at 2;pair 15;");
        x.image(0);
        x.kind(0, 4);
        x.pin(4, 4);
        x.image(1);
        x.row(0);
        x.drawn(20, 6);
        x.kind(1, 2);
        x.hole(4, false);
        x.hole(2, true);
        x.pair(3, true);
        x.pin(3, 1);
        x.pair(3, false);
        x.pin(2, 3);
        x.pin(2, 1);
        Check.tell(x, "cells 19;");
        x.frame();
        return x;
    }

    private static int[] frame(TwinRows x) {
        int[] all = new int[7 + 16];
        for (int what = 0; what <= 6; what++) {
            all[what] = x.now(what);
        }
        for (int d = 1; d <= 15; d++) {
            all[7 + d] = x.pinned(d);
        }
        return all;
    }

    private static int[] joined(int[]... parts) {
        return Arrays.stream(parts).flatMapToInt(Arrays::stream).toArray();
    }

    private static int[] shown(TwinRows x) {
        return joined(frame(x), new int[] {x.fault(), x.ways(), x.sure(), x.third(0, 1), x.third(3, 1)});
    }

    private static int[] rowSeen(TwinRows x) {
        int[] all = new int[MOST_PLACES + 2 + MOST_DISTANCE + 2];
        for (int place = 0; place <= MOST_PLACES + 1; place++) {
            all[place] = x.at(place);
        }
        for (int d = 0; d <= MOST_DISTANCE; d++) {
            all[MOST_PLACES + 2 + d] = x.first(d);
        }
        return all;
    }

    private static int[] undone(TwinRows x) {
        int[] all = new int[0];
        for (int act = 0; act < 10; act++) {
            all = joined(all, new int[] {x.undo()}, frame(x));
        }
        return all;
    }

    private static int[] restored(TwinRows x) {
        int[] all = new int[0];
        for (int k = 0; k < 2; k++) {
            all = joined(all, new int[] {x.restore(k) ? 1 : 0}, frame(x));
        }
        return all;
    }

    private static int[] readAsFrame(TwinRows x) {
        return joined(new int[] {x.frame(), x.fault()}, frame(x));
    }

    private static int[] readAsRow(TwinRows x) {
        return joined(new int[] {x.rank()}, rowSeen(x));
    }

    /** A call answers so, and all that it may not change is as on an object without that call. */
    static void dueLeft(String call, Supplier<TwinRows> make, ToLongFunction<TwinRows> act, long want) {
        dueLeft(call + ": what now, pinned, fault, ways, sure, third tell", make, act, want, Witness::shown);
        dueLeft(call + ": the row that was looked at", make, act, want, Witness::rowSeen);
        dueLeft(call + ": what can be undone", make, act, want, Witness::undone);
        dueLeft(call + ": the images", make, act, want, Witness::restored);
        dueLeft(call + ": the tape, as a frame", make, act, want, Witness::readAsFrame);
        dueLeft(call + ": the tape, as a row", make, act, want, Witness::readAsRow);
    }

    private static void dueLeft(String call, Supplier<TwinRows> make, ToLongFunction<TwinRows> act, long want,
        Function<TwinRows, int[]> shows) {
        TwinRows x = make.get();
        Check.due(call, act.applyAsLong(x), want);
        Check.due(call, shows.apply(x), shows.apply(make.get()));
    }

    /** A call changes nothing that other calls show, whatever was there. */
    static void dueUnchanged(String call, ToLongFunction<TwinRows> act, long want) {
        dueLeft(call + " on a full object", Witness::full, act, want);
        dueLeft(call + " on a full object with a row", Witness::fullWithRow, act, want);
    }

    static void dueUnchangedWithoutCells(String call, ToLongFunction<TwinRows> act, long want) {
        dueLeft(call + " on a new object", TwinRows::new, act, want);
    }

    /** What may be left behind a frame() that had a FAULT, or a rank() that was NONE: all but the tape and the fault. */
    static void dueLeftButTape(String call, Supplier<TwinRows> make, ToLongFunction<TwinRows> act, long want) {
        Supplier<TwinRows> emptied = () -> {
            TwinRows x = make.get();
            x.end(0);
            return x;
        };
        for (int part = 0; part < 3; part++) {
            TwinRows x = make.get();
            Check.due(call, act.applyAsLong(x), want);
            TwinRows y = emptied.get();
            Check.due(call + ": the tape is empty", x.now(6), 0);
            switch (part) {
                case 0:
                    Check.due(call + ": the row", rowSeen(x), rowSeen(y));
                    break;
                case 1:
                    Check.due(call + ": what can be undone", undone(x), undone(y));
                    break;
                default:
                    Check.due(call + ": the frame", frame(x), frame(y));
                    Check.due(call + ": the images", restored(x), restored(y));
                    break;
            }
        }
    }
}
