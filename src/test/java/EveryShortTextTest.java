/** Asks every question about every short text, and compares with the model. */
public final class EveryShortTextTest {
    private static final Due DUE = new Due("EveryShortTextTest");

    public static void main(String[] args) {
        eachText(4, 5);
        eachText(3, 6);
        eachText(2, 9);
        DUE.end();
    }

    private static void eachText(int letters, int longest) {
        int texts = 1;
        for (int length = 0; length <= longest; length++) {
            for (int number = 0; number < texts; number++) {
                askShapes(written(letters, length, number));
                askPatterns(letters, length, number);
            }
            texts *= letters;
        }
    }

    private static Pair written(int letters, int length, int number) {
        Pair pair = new Pair(DUE);
        int rest = number;
        for (int place = 0; place < length; place++) {
            pair.write(rest % letters, 1);
            rest /= letters;
        }
        return pair;
    }

    private static void askShapes(Pair pair) {
        int length = pair.model.text().length();
        for (int engine = 0; engine < 4; engine++) {
            int pieces = pair.distinct(engine);
            pair.longest(engine);
            for (int k = 0; k <= length; k++) {
                pair.tail(engine, k);
            }
            for (int other = 0; other < 4; other++) {
                pair.agree(engine, other);
            }
            if (engine == 0) {
                for (int k = 0; k <= pieces; k++) {
                    pair.piece(k);
                }
            }
        }
        for (int i = 0; i <= length; i++) {
            pair.unique(i);
            pair.repeats(i + 1);
            for (int j = 0; j <= length; j++) {
                pair.common(i, j);
            }
        }
    }

    /** All patterns up to three letters, and every piece of the text itself. */
    private static void askPatterns(int letters, int length, int number) {
        for (int first = 0; first < letters; first++) {
            for (int second = 0; second < letters; second++) {
                Pair pair = written(letters, length, number);
                pair.extend(first);
                askPattern(pair);
                pair.extend(second);
                askPattern(pair);
                pair.extend((first + 1) % letters);
                askPattern(pair);
            }
        }
        for (int i = 0; i <= length; i++) {
            Pair pair = written(letters, length, number);
            for (int n = 0; i + n <= length; n++) {
                pair.copy(i, n);
                askPattern(pair);
            }
        }
    }

    private static void askPattern(Pair pair) {
        for (int engine = 0; engine < 5; engine++) {
            int places = pair.count(engine);
            // Few questions, so that a longer text's object stays within its 512 calls.
            pair.where(engine, 0);
            pair.where(engine, places - 1);
            pair.where(engine, places);
        }
    }
}
