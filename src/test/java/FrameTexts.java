import java.util.Random;

/** Texts of FRAMES by chance: right ones, and ones with a few faults. */
final class FrameTexts {
    private static final String[] SCRAPS = {
        ";", " ", "\n", "cells", "hole", "pair", "at", "0", "1", "7", "15", "16", "18", "19", "007", "at1", "x", "?",
        String.valueOf((char) 255), "\t", "pair 3 at 2;", "hole 2;"
    };

    private FrameTexts() {
    }

    static String any(Random random) {
        StringBuilder text = new StringBuilder(random.nextInt(3) == 0 ? fittingFrame(random) : looseFrame(random));
        if (random.nextInt(3) == 0) {
            spoil(text, random);
        }
        if (random.nextInt(12) == 0) {
            stretch(text, random);
        }
        return text.substring(0, Math.min(text.length(), 320));
    }

    private static String gap(Random random) {
        return random.nextInt(6) == 0 ? " \n ".substring(random.nextInt(3)) : "";
    }

    /** As many places as two for each PAIR, so that there may be FILLINGS. */
    private static String fittingFrame(Random random) {
        int pairs = 1 + random.nextInt(6);
        int holes = random.nextInt(3);
        int cells = 2 * pairs + holes;
        StringBuilder text = new StringBuilder("cells ").append(cells).append(';');
        for (int i = 0; i < holes; i++) {
            text.append("hole ").append(cells - 2 * i).append(';');
        }
        int skipped = random.nextInt(pairs + 2);
        for (int d = 1, told = 0; told < pairs; d++) {
            if (d != skipped) {
                text.append("pair ").append(d).append(';').append(gap(random));
                told++;
            }
        }
        return text.toString();
    }

    private static String looseFrame(Random random) {
        int cells = 1 + random.nextInt(18);
        StringBuilder text = new StringBuilder(gap(random)).append("cells ").append(cells).append(gap(random)).append(';');
        int rows = random.nextInt(random.nextInt(4) == 0 ? 22 : 6);
        for (int i = 0; i < rows; i++) {
            int d = 1 + random.nextInt(15);
            text.append(gap(random));
            if (random.nextInt(3) == 0) {
                text.append("hole ").append(1 + random.nextInt(cells));
            } else {
                text.append("pair ").append(d);
                if (random.nextInt(2) == 0 && cells > d) {
                    text.append(" at ").append(1 + random.nextInt(cells - d));
                }
            }
            text.append(gap(random)).append(';');
        }
        return text.append(gap(random)).toString();
    }

    private static void spoil(StringBuilder text, Random random) {
        int place = random.nextInt(text.length() + 1);
        if (random.nextInt(3) == 0) {
            text.setLength(place);
        } else if (random.nextInt(2) == 0) {
            text.insert(place, SCRAPS[random.nextInt(SCRAPS.length)]);
        } else {
            text.replace(place, Math.min(place + 1, text.length()), SCRAPS[random.nextInt(SCRAPS.length)]);
        }
    }

    /** Puts the last rows about byte 300. */
    private static void stretch(StringBuilder text, Random random) {
        int sign = text.indexOf(";");
        int missing = 295 + random.nextInt(15) - text.length();
        if (sign >= 0 && missing > 0) {
            text.insert(sign + 1, " ".repeat(missing));
        }
    }
}
