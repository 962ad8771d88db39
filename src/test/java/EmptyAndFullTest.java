/** Every method with the text empty or full and the pattern empty or full. */
public final class EmptyAndFullTest {
    private static final int BAD = -1;
    private static final int FULL = -2;
    private static final int TRUE = 1;
    private static final int FALSE = 0;
    private static final String FORTY = "0123".repeat(10);
    private static final String TEN = "0123012301";
    private static final Due DUE = new Due("EmptyAndFullTest");

    public static void main(String[] args) {
        for (String pattern : new String[] {"", TEN}) {
            DUE.by("the text is empty, the pattern has " + pattern.length());
            changeEmptyText(new Start(DUE, "", pattern), pattern);
            askEmptyText(new Start(DUE, "", pattern));
            DUE.by("the text is full, the pattern has " + pattern.length());
            changeFullText(new Start(DUE, FORTY, pattern), pattern);
            askFullText(new Start(DUE, FORTY, pattern));
        }
        for (String text : new String[] {"", FORTY}) {
            DUE.by("the pattern is empty, the text has " + text.length());
            emptyPattern(new Start(DUE, text, ""), text);
            DUE.by("the pattern is full, the text has " + text.length());
            fullPattern(new Start(DUE, text, TEN), text);
        }
        DUE.end();
    }

    private static void changeEmptyText(Start start, String pattern) {
        start.gives(1, "3", pattern, "write", 3, 1);
        start.gives(40, "3".repeat(40), pattern, "write", 3, 40);
        start.keeps(BAD, "again", 1, 1);
        start.keeps(BAD, "change", 0, 0);
        start.keeps(0, "cut", 0);
        start.keeps(0, "cut", 40);
        start.gives(TRUE, "", "", "copy", 0, 0);
        start.keeps(FALSE, "copy", 0, 1);
        start.keeps(FALSE, "copy", 1, 0);
    }

    private static void askEmptyText(Start start) {
        for (int engine = 0; engine <= 4; engine++) {
            start.keeps(0, "count", engine);
            start.keeps(BAD, "where", engine, 0);
        }
        for (int engine = 0; engine <= 3; engine++) {
            start.keeps(0, "distinct", engine);
            start.keeps(0, "longest", engine);
            start.keeps(BAD, "tail", engine, 0);
            start.keeps(TRUE, "agree", engine, 3 - engine);
        }
        start.keeps(BAD, "piece", 0);
        start.keeps(BAD, "common", 0, 0);
        start.keeps(0, "repeats", 1);
        start.keeps(BAD, "unique", 0);
    }

    private static void changeFullText(Start start, String pattern) {
        start.keeps(FULL, "write", 3, 1);
        start.keeps(FULL, "write", 3, 40);
        start.keeps(FULL, "again", 1, 1);
        start.keeps(FULL, "again", 40, 40);
        start.gives(0, "3" + FORTY.substring(1), pattern, "change", 0, 3);
        start.gives(3, FORTY.substring(0, 39) + "0", pattern, "change", 39, 0);
        start.keeps(BAD, "change", 40, 0);
        start.keeps(40, "cut", 0);
        start.gives(39, FORTY.substring(0, 39), pattern, "cut", 1);
        start.gives(0, "", pattern, "cut", 40);
        start.gives(TRUE, FORTY, "2301230123", "copy", 30, 10);
        start.keeps(FALSE, "copy", 31, 10);
        start.gives(TRUE, FORTY, "", "copy", 40, 0);
    }

    private static void askFullText(Start start) {
        for (int engine = 0; engine <= 3; engine++) {
            // Four pieces of each length up to 37, then 3, 2 and 1.
            start.keeps(154, "distinct", engine);
            start.keeps(36, "longest", engine);
            for (int k = 0; k < 40; k++) {
                // By the first letter, and of those that begin alike the shortest first.
                start.keeps(k / 10 + 4 * (9 - k % 10), "tail", engine, k);
            }
            start.keeps(BAD, "tail", engine, 40);
            start.keeps(TRUE, "agree", engine, 3 - engine);
        }
        start.keeps(64, "piece", 0);
        start.keeps(64 * 40, "piece", 39);
        start.keeps(1 + 64, "piece", 40);
        start.keeps(3 + 64 * 37, "piece", 153);
        start.keeps(BAD, "piece", 154);
        start.keeps(40, "common", 0, 0);
        start.keeps(1, "common", 39, 39);
        start.keeps(BAD, "common", 39, 40);
        start.keeps(154, "repeats", 1);
        start.keeps(10, "repeats", 10);
        start.keeps(0, "repeats", 11);
        start.keeps(37, "unique", 0);
        start.keeps(0, "unique", 39);
        start.keeps(BAD, "unique", 40);
    }

    private static void emptyPattern(Start start, String text) {
        start.gives(1, text, "0", "extend", 0);
        start.gives(1, text, "3", "extend", 3);
        start.keeps(BAD, "extend", 4);
        start.keeps(TRUE, "copy", text.length(), 0);
        for (int engine = 0; engine <= 4; engine++) {
            start.keeps(0, "count", engine);
            start.keeps(BAD, "where", engine, 0);
        }
    }

    private static void fullPattern(Start start, String text) {
        start.keeps(FULL, "extend", 0);
        start.keeps(FULL, "extend", 3);
        start.keeps(BAD, "extend", 4);
        start.gives(TRUE, text, "", "copy", text.length(), 0);
        // It begins at 0, 4, .. and the last time at 28.
        int places = text.isEmpty() ? 0 : 8;
        for (int engine = 0; engine <= 4; engine++) {
            start.keeps(places, "count", engine);
            for (int k = 0; k < places; k++) {
                start.keeps(4 * k, "where", engine, k);
            }
            start.keeps(BAD, "where", engine, places);
        }
    }
}
