/** Long mixed runs, with wrong arguments among the right ones, compared with the model. */
public final class MixedRunsTest {
    private static final int[] EDGES = {
        Integer.MIN_VALUE, Integer.MIN_VALUE + 1, -64, -41, -2, -1, 0, 1, 3, 4, 5, 9, 10, 11, 39, 40,
        41, 64, 819, 820, 821, Integer.MAX_VALUE - 40, Integer.MAX_VALUE - 1, Integer.MAX_VALUE,
    };
    private static final Due DUE = new Due("MixedRunsTest");

    // A fixed row of numbers: each run of the test is the same.
    private static long seed = 20261115L;

    public static void main(String[] args) {
        for (int run = 0; run < 1500; run++) {
            mixedRun(1 + run % 4);
        }
        for (int run = 0; run < 300; run++) {
            fullText(1 + run % 4);
        }
        DUE.end();
    }

    private static int below(int bound) {
        seed = seed * 6364136223846793005L + 1442695040888963407L;
        return (int) ((seed >>> 33) % bound);
    }

    /** Mostly 0 .. bound - 1, now and then an edge or a number far out. */
    private static int mostlyBelow(int bound) {
        if (below(12) == 0) {
            return EDGES[below(EDGES.length)];
        }
        return bound < 1 ? 0 : below(bound);
    }

    private static void mixedRun(int letters) {
        Pair pair = new Pair(DUE);
        for (int call = 0; call < 512; call++) {
            if (below(3) == 0) {
                changeState(pair, letters);
            } else {
                ask(pair);
            }
        }
    }

    private static void changeState(Pair pair, int letters) {
        int length = pair.model.text().length();
        switch (below(8)) {
            case 0 -> pair.write(mostlyBelow(letters), 1 + mostlyBelow(3));
            case 1, 2 -> pair.again(1 + mostlyBelow(length), 1 + mostlyBelow(12));
            case 3 -> pair.change(mostlyBelow(length), mostlyBelow(letters));
            case 4 -> pair.cut(mostlyBelow(below(6) == 0 ? 42 : 14));
            case 5 -> pair.extend(mostlyBelow(letters));
            default -> pair.copy(mostlyBelow(length + 1), mostlyBelow(below(2) == 0 ? 4 : 12));
        }
    }

    private static void ask(Pair pair) {
        int length = pair.model.text().length();
        switch (below(12)) {
            case 0, 1 -> pair.count(mostlyBelow(5));
            case 2, 3 -> pair.where(mostlyBelow(5), mostlyBelow(5));
            case 4 -> pair.distinct(mostlyBelow(4));
            case 5 -> pair.longest(mostlyBelow(4));
            case 6 -> pair.tail(mostlyBelow(4), mostlyBelow(length));
            case 7 -> pair.agree(mostlyBelow(4), mostlyBelow(4));
            case 8 -> pair.piece(mostlyBelow(length * (length + 1) / 2 + 1));
            case 9 -> pair.common(mostlyBelow(length), mostlyBelow(length));
            case 10 -> pair.repeats(1 + mostlyBelow(4));
            default -> pair.unique(mostlyBelow(length));
        }
    }

    /** A text of 40 letters, of one letter up to four, with the questions of its far ends. */
    private static void fullText(int letters) {
        Pair pair = new Pair(DUE);
        while (pair.model.text().length() < 40) {
            if (below(3) == 0 && pair.model.text().length() > 0) {
                pair.again(1 + below(pair.model.text().length()), 1 + below(9));
            } else {
                pair.write(below(letters), 1);
            }
        }
        for (int engine = 0; engine < 4; engine++) {
            int pieces = pair.distinct(engine);
            pair.longest(engine);
            for (int k = 0; k <= 40; k++) {
                pair.tail(engine, k);
            }
            pair.piece(pieces - 1);
            pair.piece(pieces);
        }
        for (int i = 0; i <= 40; i++) {
            pair.unique(i);
            pair.repeats(i + 1);
        }
        for (int turn = 0; turn < 6; turn++) {
            int n = 1 + below(10);
            pair.copy(below(41 - n), n);
            for (int engine = 0; engine < 5; engine++) {
                int places = pair.count(engine);
                pair.where(engine, places - 1);
                pair.where(engine, places);
            }
        }
    }
}
