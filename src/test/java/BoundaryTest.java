import java.io.IOException;

/**
 * The edges that the document names, sentence by sentence: just inside, at the edge, just beyond it, and for a refused call
 * all that other calls show behind it. Each test quotes its sentence; what no test quotes is told as missing.
 */
public final class BoundaryTest {
    private static final int CALLS = 512;

    public static void main(String[] args) throws IOException {
        Sentences.read();
        TextEdges.run();
        FrameEdges.run();
        DrawEdges.run();
        FillingEdges.run();
        RingEdges.run();
        Sentences.dueAllQuoted();
        lastCalls();
        Check.finish();
    }

    /** "An object is used for at most 512 calls after it has been made": the last ones answer as the first ones do. */
    private static void lastCalls() {
        Check.about("What it is: \"An object is used for at most 512 calls after it has been made\"");
        TwinRows x = new TwinRows();
        for (int call = 1; call <= CALLS; call += 8) {
            Check.due("call " + call, x.kind(0, 8), 16);
            Check.due("call " + (call + 1), x.ways(), 504);
            Check.due("call " + (call + 2), Check.rowOrThrows(x, 503), 8);
            Check.due("call " + (call + 3), x.pin(8, 2), 0);
            Check.due("call " + (call + 4), x.ways(), 66);
            Check.due("call " + (call + 5), x.feed(0, 0, 0, 0, 0), 20);
            Check.due("call " + (call + 6), x.frame(), -1);
            Check.due("call " + (call + 7), x.now(5), Math.min(8, 2 * (call / 8 + 1)));
        }
    }
}
