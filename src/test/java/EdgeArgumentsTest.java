import java.util.ArrayList;
import java.util.List;

/**
 * Every method with any two of the numbers at which something begins or ends, from texts and
 * patterns of the lengths at which something begins or ends, compared with the model: no call
 * throws, and what a refused one leaves is what was there.
 */
public final class EdgeArgumentsTest {
    private static final int LEAST = Integer.MIN_VALUE;
    private static final int MOST = Integer.MAX_VALUE;
    private static final int[] EDGES = {
        LEAST, LEAST + 1, LEAST + 10, LEAST + 40, -41, -10, -2, -1, 0, 1, 2, 3, 4, 5, 9, 10, 11,
        39, 40, 41, 64, MOST - 40, MOST - 10, MOST - 9, MOST - 1, MOST,
    };
    private static final String[] WITH_ONE = {
        "cut", "extend", "count", "distinct", "longest", "piece", "repeats", "unique",
    };
    private static final String[] WITH_TWO = {
        "write", "again", "change", "copy", "where", "tail", "agree", "common",
    };
    private static final int[] TEXT_LENGTHS = {0, 1, 9, 10, 11, 39, 40};
    private static final int[] PATTERN_LENGTHS = {0, 1, 9, 10};
    private static final String LETTERS = "0120310232013112".repeat(3);
    private static final Due DUE = new Due("EdgeArgumentsTest");

    public static void main(String[] args) {
        for (int textLength : TEXT_LENGTHS) {
            for (int patternLength : PATTERN_LENGTHS) {
                String text = LETTERS.substring(0, textLength);
                // From place 1 on, so that it occurs in a long text and not in a short one.
                tryAll(text, LETTERS.substring(1, 1 + patternLength));
            }
        }
        goOnAfterTheLastCall();
        DUE.end();
    }

    private static void tryAll(String text, String pattern) {
        List<Integer> values = new ArrayList<>();
        for (int edge : EDGES) {
            values.add(edge);
        }
        values.add(text.length() - 1);
        values.add(text.length());
        values.add(text.length() + 1);
        for (int a : values) {
            for (String name : WITH_ONE) {
                tryOne(text, pattern, name, a);
            }
            for (int b : values) {
                for (String name : WITH_TWO) {
                    tryOne(text, pattern, name, a, b);
                }
            }
        }
    }

    private static void tryOne(String text, String pattern, String name, int... args) {
        Pair pair = new Pair(DUE);
        pair.begin(text, pattern);
        pair.send(name, args);
        pair.readText();
        pair.readPatternAndSpoilAll();
    }

    /** What an object answers after its 512th call is free, but it must still answer. */
    private static void goOnAfterTheLastCall() {
        SuffixWorkbench x = new SuffixWorkbench();
        for (int round = 0; round < 200; round++) {
            for (int edge : EDGES) {
                x.write(round % 4, 1 + round % 3);
                x.extend(edge & 3);
                x.again(edge, round % 41);
                x.change(edge, round % 5);
                x.copy(round % 41, edge);
                x.cut(edge == 40 && round % 7 == 0 ? 40 : round % 2);
                x.piece(edge);
                x.repeats(edge);
                x.unique(edge);
                x.common(edge, round % 41);
                for (int engine = -1; engine <= 5; engine++) {
                    x.count(engine);
                    x.where(engine, edge);
                    x.distinct(engine);
                    x.longest(engine);
                    x.tail(engine, edge);
                    x.agree(engine, round % 6 - 1);
                }
            }
        }
    }
}
