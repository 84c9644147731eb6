import java.nio.charset.StandardCharsets;
import java.util.ArrayList;
import java.util.Arrays;
import java.util.HashMap;
import java.util.List;
import java.util.Map;
import java.util.TreeMap;
import java.util.TreeSet;
import java.util.regex.Matcher;
import java.util.regex.Pattern;

/** The document told once more, slowly and by other means (sets, lists, sorting), to compare the class with. */
final class PlainModel {
    static final int NONE = -1;
    static final int THROWS = Check.THROWS;
    private static final Map<String, List<int[]>> KNOWN = new HashMap<>();

    /** A FRAME that is never changed, only made anew. */
    private record Frame(int cells, TreeSet<Integer> holes, TreeMap<Integer, Integer> pairs) {
        Frame copy() {
            return new Frame(cells, new TreeSet<>(holes), new TreeMap<>(pairs));
        }

        TreeSet<Integer> pinnedPlaces(int except) {
            TreeSet<Integer> places = new TreeSet<>();
            pairs.forEach((d, place) -> {
                if (place != 0 && d != except) {
                    places.add(place);
                    places.add(place + d);
                }
            });
            return places;
        }
    }

    private byte[] tape = new byte[0];
    private Frame frame = new Frame(0, new TreeSet<>(), new TreeMap<>());
    private final List<Frame> acts = new ArrayList<>();
    private final Frame[] images = new Frame[2];
    private int[] seen = null;
    private int fault = 0;
    private int seed = 0;

    int feed(int a, int b, int c, int d, int e) {
        if (tape.length + 20 > 340) {
            return NONE;
        }
        int old = tape.length;
        tape = Arrays.copyOf(tape, old + 20);
        int[] numbers = {a, b, c, d, e};
        for (int i = 0; i < 20; i++) {
            tape[old + i] = (byte) (numbers[i / 4] >> (24 - 8 * (i % 4)));
        }
        return tape.length;
    }

    boolean end(int n) {
        if (n < 0 || n > tape.length) {
            return false;
        }
        tape = Arrays.copyOf(tape, n);
        return true;
    }

    private record Token(int begin, String text) {
        boolean is(String form) {
            return text.matches(form);
        }
    }

    private static List<Token> tokens(String text) {
        List<Token> all = new ArrayList<>();
        Matcher m = Pattern.compile("[a-z0-9]+|[^ \n]", Pattern.DOTALL).matcher(text);
        while (m.find()) {
            if (text.length() <= 300 || m.start() < 300) {
                all.add(new Token(m.start(), m.group()));
            }
        }
        all.add(text.length() > 300 ? new Token(300, "too long") : new Token(text.length(), "end"));
        return all;
    }

    int frame() {
        String text = new String(tape, StandardCharsets.ISO_8859_1);
        tape = new byte[0];
        fault = 0;
        Frame draft = new Frame(0, new TreeSet<>(), new TreeMap<>());
        String wanted = "row";
        int rows = 0;
        int d = 0;
        for (Token t : tokens(text)) {
            int wrong = 0;
            int number = t.is("[0-9]{1,2}") ? Integer.parseInt(t.text) : NONE;
            switch (wanted) {
                case "row":
                    if (t.begin == text.length()) {
                        frame = draft;
                        acts.clear();
                        return rows;
                    } else if (rows == 0 ? !t.is("cells") : !t.is("hole|pair")) {
                        wrong = 1;
                    } else if (t.is("pair") && draft.pairs.size() == 9) {
                        wrong = 4;
                    } else {
                        wanted = t.text;
                    }
                    break;
                case "at or ;":
                    wrong = t.is("at|;") ? 0 : 1;
                    rows += t.is(";") ? 1 : 0;
                    wanted = t.is(";") ? "row" : "at";
                    break;
                case ";":
                    wrong = t.is(";") ? 0 : 1;
                    rows++;
                    wanted = "row";
                    break;
                case "cells":
                    wrong = number == NONE ? 1 : number < 1 || number > 18 ? 2 : 0;
                    draft = new Frame(number, new TreeSet<>(), new TreeMap<>());
                    wanted = ";";
                    break;
                case "hole":
                    wrong = number == NONE ? 1 : number < 1 || number > draft.cells ? 2
                        : draft.holes.contains(number) || draft.pinnedPlaces(0).contains(number) ? 3 : 0;
                    draft.holes.add(number);
                    wanted = ";";
                    break;
                case "pair":
                    wrong = number == NONE ? 1 : number < 1 || number > 15 ? 2
                        : draft.pairs.containsKey(number) ? 3 : 0;
                    d = number;
                    draft.pairs.put(d, 0);
                    wanted = "at or ;";
                    break;
                default:
                    TreeSet<Integer> taken = draft.pinnedPlaces(0);
                    taken.addAll(draft.holes);
                    wrong = number == NONE ? 1 : number < 1 || number + d > draft.cells ? 2
                        : taken.contains(number) || taken.contains(number + d) ? 3 : 0;
                    draft.pairs.put(d, number);
                    wanted = ";";
                    break;
            }
            if (wrong != 0) {
                fault = wrong;
                return -1 - t.begin;
            }
        }
        throw new IllegalStateException("the last token is always refused or the end");
    }

    int fault() {
        return fault;
    }

    private void act(Frame next) {
        acts.add(frame);
        if (acts.size() > 8) {
            acts.remove(0);
        }
        frame = next;
    }

    int kind(int kind, int order) {
        boolean odd = kind == 1 || kind == 3;
        if (kind < 0 || kind > 3 || order < 1 || order > (odd ? 8 : 9)) {
            return NONE;
        }
        Frame next = new Frame(odd ? 2 * order + 1 : 2 * order, new TreeSet<>(), new TreeMap<>());
        if (odd) {
            next.holes.add(kind == 1 ? 2 * order : order + 1);
        }
        for (int i = 1; i <= order; i++) {
            next.pairs.put(kind == 2 ? i + 1 : i, 0);
        }
        act(next);
        return next.cells;
    }

    private static int bits(Iterable<Integer> numbers) {
        int bits = 0;
        for (int n : numbers) {
            bits |= 1 << n - 1;
        }
        return bits;
    }

    int now(int what) {
        TreeSet<Integer> pinned = new TreeSet<>(frame.pairs.keySet());
        pinned.removeIf(d -> frame.pairs.get(d) == 0);
        return switch (what) {
            case 0 -> frame.cells;
            case 1 -> bits(frame.holes);
            case 2 -> bits(frame.pairs.keySet());
            case 3 -> bits(pinned);
            case 4 -> isEven() ? 1 : 0;
            case 5 -> acts.size();
            case 6 -> tape.length;
            default -> NONE;
        };
    }

    private boolean isEven() {
        int sum = 0;
        int places = 0;
        for (int place = 1; place <= frame.cells; place++) {
            if (!frame.holes.contains(place)) {
                sum += place;
                places++;
            }
        }
        for (int d : frame.pairs.keySet()) {
            sum -= d;
        }
        return places == 2 * frame.pairs.size() && Math.floorMod(sum, 2) == 0;
    }

    int pinned(int d) {
        return frame.pairs.getOrDefault(d, NONE);
    }

    private List<int[]> fillings() {
        return KNOWN.computeIfAbsent(frame.toString(), key -> {
            List<int[]> all = new ArrayList<>();
            int[] row = new int[frame.cells];
            for (int hole : frame.holes) {
                row[hole - 1] = -1;
            }
            place(new ArrayList<>(frame.pairs.descendingKeySet()), 0, row, all);
            all.sort(Arrays::compare);
            return all;
        });
    }

    private void place(List<Integer> distances, int index, int[] row, List<int[]> all) {
        if (index == distances.size()) {
            if (Arrays.stream(row).noneMatch(n -> n == 0)) {
                all.add(Arrays.stream(row).map(n -> Math.max(n, 0)).toArray());
            }
            return;
        }
        int d = distances.get(index);
        int pin = frame.pairs.get(d);
        for (int i = 0; i + d < row.length; i++) {
            if (row[i] == 0 && row[i + d] == 0 && (pin == 0 || pin == i + 1)) {
                row[i] = d;
                row[i + d] = d;
                place(distances, index + 1, row, all);
                row[i] = 0;
                row[i + d] = 0;
            }
        }
    }

    int ways() {
        return fillings().size();
    }

    int row(int rank) {
        if (rank < 0 || rank >= fillings().size()) {
            return THROWS;
        }
        seen = fillings().get(rank);
        return seen.length == 0 ? NONE : seen[0];
    }

    int at(int place) {
        return seen == null || place < 1 || place > seen.length ? NONE : seen[place - 1];
    }

    int first(int d) {
        for (int i = 0; seen != null && d != 0 && i < seen.length; i++) {
            if (seen[i] == d) {
                return i + 1;
            }
        }
        return NONE;
    }

    private int lookAt(int[] row) {
        for (int rank = 0; rank < fillings().size(); rank++) {
            if (Arrays.equals(fillings().get(rank), row)) {
                seen = row;
                return rank;
            }
        }
        return NONE;
    }

    int rank() {
        int[] row = new int[tape.length];
        for (int i = 0; i < row.length; i++) {
            row[i] = Byte.toUnsignedInt(tape[i]);
        }
        tape = new byte[0];
        return lookAt(row);
    }

    int behind() {
        if (seen == null) {
            return NONE;
        }
        int[] row = new int[seen.length];
        for (int i = 0; i < row.length; i++) {
            row[i] = seen[row.length - 1 - i];
        }
        return lookAt(row);
    }

    private static int firstIn(int[] row, int d) {
        int i = 0;
        while (row[i] != d) {
            i++;
        }
        return i + 1;
    }

    int standing(int d, int place) {
        if (!frame.pairs.containsKey(d) || place < 1 || place > frame.cells) {
            return NONE;
        }
        return (int) fillings().stream().filter(row -> firstIn(row, d) == place).count();
    }

    private TreeSet<Integer> firsts(int d) {
        TreeSet<Integer> places = new TreeSet<>();
        for (int[] row : fillings()) {
            places.add(firstIn(row, d));
        }
        return places;
    }

    int may(int d) {
        return frame.pairs.containsKey(d) ? bits(firsts(d)) : NONE;
    }

    int sure() {
        TreeSet<Integer> pairs = new TreeSet<>(frame.pairs.keySet());
        pairs.removeIf(d -> firsts(d).size() != 1);
        return bits(pairs);
    }

    int extended(int n, int hole) {
        if (n < 1 || n > 7 || hole < 1 || hole > 2 * n + 1) {
            return NONE;
        }
        PlainModel other = new PlainModel();
        other.frame = new Frame(2 * n + 1, new TreeSet<>(List.of(hole)), new TreeMap<>());
        for (int d = 1; d <= n; d++) {
            other.frame.pairs.put(d, 0);
        }
        return other.ways();
    }

    int made(int n) {
        if (n != 6 && (n < 8 || n > 60) || n % 4 == 3) {
            return NONE;
        }
        int m = n / 4;
        // rows of left, right, the first r, the last r
        int[][][] told = {
            {{4 * m, 8 * m, 0, 2 * m - 1}, {m, m + 1, 0, 0}, {m + 2, 3 * m - 1, 0, m - 3}, {0, 4 * m - 1, 1, m - 1},
                {2 * m + 1, 6 * m, 0, 0}, {2 * m, 4 * m - 1, 0, 0}},
            {{4 * m + 2, 8 * m + 2, 0, 2 * m - 1}, {0, 4 * m + 1, 1, m}, {2 * m + 1, 6 * m + 2, 0, 0},
                {2 * m + 2, 4 * m + 1, 0, 0}, {m + 1, m + 2, 0, 0}, {m + 2, 3 * m + 1, 1, m - 2}},
            {{0, 4 * m + 2, 1, 2 * m}, {2 * m + 1, 6 * m + 2, 0, 0}, {4 * m + 2, 6 * m + 3, 0, 0},
                {4 * m + 3, 8 * m + 5, 0, 0}, {4 * m + 3, 8 * m + 4, 1, m - 1}, {5 * m + 2, 7 * m + 3, 1, m - 1},
                {7 * m + 3, 7 * m + 4, 0, 0}}
        };
        seen = new int[n % 4 == 2 ? 2 * n + 1 : 2 * n];
        for (int[] t : told[n % 4]) {
            for (int r = t[2]; r <= t[3]; r++) {
                int d = t[1] - r - (t[0] + r);
                seen[t[0] + r - 1] = d;
                seen[t[1] - r - 1] = d;
            }
        }
        return seen.length;
    }

    int third(int x, int y) {
        if (seen == null) {
            return NONE;
        }
        TreeSet<Integer> distances = new TreeSet<>();
        TreeSet<Integer> places = new TreeSet<>();
        for (int i = 0; i < seen.length; i++) {
            if (seen[i] != 0) {
                distances.add(seen[i]);
                places.add(i + 1);
            }
        }
        int n = distances.size();
        TreeSet<Integer> plain = new TreeSet<>();
        for (int place = 1; place <= 2 * n; place++) {
            plain.add(place);
        }
        TreeSet<Integer> hooked = new TreeSet<>(plain);
        hooked.remove(2 * n);
        hooked.add(2 * n + 1);
        boolean fits = n > 0 && distances.last() == n && (places.equals(plain) || places.equals(hooked));
        int points = 6 * n + 1;
        if (!fits || x < 0 || y < 0 || x >= points || y >= points || x == y) {
            return NONE;
        }
        for (int d = 1; d <= n; d++) {
            for (int point = 0; point < points; point++) {
                List<Integer> triple = new ArrayList<>(
                    List.of(point, (point + d) % points, (point + n + first(d) + d) % points));
                if (triple.remove((Integer) x) && triple.remove((Integer) y)) {
                    return triple.get(0);
                }
            }
        }
        throw new IllegalStateException("each two points lie together");
    }

    int hole(int place, boolean is) {
        if (place < 1 || place > frame.cells || frame.holes.contains(place) == is
            || frame.pinnedPlaces(0).contains(place)) {
            return NONE;
        }
        Frame next = frame.copy();
        if (is) {
            next.holes.add(place);
        } else {
            next.holes.remove(place);
        }
        act(next);
        return next.holes.size();
    }

    int pair(int d, boolean is) {
        if (d < 1 || d > 15 || frame.pairs.containsKey(d) == is || is && frame.pairs.size() == 9) {
            return NONE;
        }
        Frame next = frame.copy();
        if (is) {
            next.pairs.put(d, 0);
        } else {
            next.pairs.remove(d);
        }
        act(next);
        return next.pairs.size();
    }

    int pin(int d, int place) {
        if (!frame.pairs.containsKey(d) || place < 0 || place > frame.cells || place > 0 && place + d > frame.cells) {
            return NONE;
        }
        if (frame.pairs.get(d) == place) {
            return 1;
        }
        TreeSet<Integer> taken = frame.pinnedPlaces(d);
        taken.addAll(frame.holes);
        if (place > 0 && (taken.contains(place) || taken.contains(place + d))) {
            return 2;
        }
        Frame next = frame.copy();
        next.pairs.put(d, place);
        act(next);
        return 0;
    }

    private int draw(int n) {
        seed = seed * 1103515245 + 12345;
        return (seed >>> 8) % n;
    }

    int drawn(int n, int newSeed) {
        if (n < 1 || n > 60) {
            return NONE;
        }
        List<Frame> actsBefore = new ArrayList<>(acts);
        Frame before = frame;
        seed = newSeed;
        int done = 0;
        for (int i = 0; i < n && frame.cells > 0; i++) {
            int choice = draw(4);
            if (choice == 0) {
                int place = draw(frame.cells) + 1;
                done += hole(place, !frame.holes.contains(place)) == NONE ? 0 : 1;
            } else if (choice == 1) {
                int d = draw(15) + 1;
                done += pair(d, !frame.pairs.containsKey(d)) == NONE ? 0 : 1;
            } else if (!frame.pairs.isEmpty()) {
                int d = new ArrayList<>(frame.pairs.keySet()).get(draw(frame.pairs.size()));
                int place = draw(frame.cells) + 1;
                done += pin(d, frame.pairs.get(d) == 0 ? place : 0) == 0 ? 1 : 0;
            }
        }
        Frame behind = frame;
        acts.clear();
        acts.addAll(actsBefore);
        frame = before;
        if (done > 0) {
            act(behind);
        }
        return done;
    }

    int undo() {
        if (acts.isEmpty()) {
            return NONE;
        }
        frame = acts.remove(acts.size() - 1);
        return acts.size();
    }

    boolean image(int k) {
        if (k != 0 && k != 1) {
            return false;
        }
        images[k] = frame;
        return true;
    }

    boolean restore(int k) {
        if (k != 0 && k != 1 || images[k] == null) {
            return false;
        }
        frame = images[k];
        acts.clear();
        return true;
    }
}
