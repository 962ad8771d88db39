import java.util.Arrays;

/**
 * Each sentence of the document that names a boundary: at the last value that is allowed and at the
 * first that is not, on both sides. Every row is a new object, one call, its answer, and then what
 * the text and the pattern are by later calls.
 */
public final class BoundaryTest {
    private static final int BAD = -1;
    private static final int FULL = -2;
    private static final int TRUE = 1;
    private static final int FALSE = 0;
    private static final int LEAST = Integer.MIN_VALUE;
    private static final int MOST = Integer.MAX_VALUE;
    private static final String FORTY = "0123".repeat(10);
    private static final String TEN = "0123012301";
    private static final Due DUE = new Due("BoundaryTest");

    public static void main(String[] args) {
        lastCall();
        terms();
        newObject();
        write();
        again();
        change();
        cut();
        extend();
        copy();
        count();
        where();
        distinct();
        longest();
        tail();
        agree();
        piece();
        common();
        repeats();
        unique();
        orderAndLimits();
        DUE.end();
    }

    private static Start from(String text, String pattern) {
        return new Start(DUE, text, pattern);
    }

    private static void keepsForEach(Start start, int want, String name, int... values) {
        for (int value : values) {
            start.keeps(want, name, value);
        }
    }

    private static void lastCall() {
        DUE.by("What it is: an object is used for at most 512 calls");
        for (int engine = 0; engine <= 3; engine++) {
            atCall512(8, "count", engine);
            atCall512(28, "where", engine, 7);
            atCall512(154, "distinct", engine);
            atCall512(36, "longest", engine);
            atCall512(3, "tail", engine, 39);
            atCall512(TRUE, "agree", engine, 3 - engine);
        }
        atCall512(8, "count", 4);
        atCall512(28, "where", 4, 7);
        atCall512(FULL, "write", 0, 1);
        atCall512(FULL, "again", 1, 1);
        atCall512(3, "change", 39, 0);
        atCall512(39, "cut", 1);
        atCall512(FULL, "extend", 0);
        atCall512(TRUE, "copy", 30, 10);
        atCall512(3 + 64 * 37, "piece", 153);
        atCall512(36, "common", 0, 4);
        atCall512(138, "repeats", 2);
        atCall512(37, "unique", 0);
    }

    /** The last call of an object whose text was made, and taken off again, many times before. */
    private static void atCall512(int want, String name, int... args) {
        Pair pair = new Pair(DUE);
        pair.begin("", TEN);
        for (int round = 0; round < 100; round++) {
            pair.write(round % 4, 1 + round % 40);
            pair.again(1, 1);
            pair.agree(round % 4, (round + 1) % 4);
            pair.cut(40);
        }
        // 10 calls for the pattern, 400 for the rounds, 61 fillers and 40 letters: 511.
        for (int filler = 0; filler < 61; filler++) {
            pair.extend(filler % 5);
        }
        pair.begin(FORTY, "");
        DUE.is("calls before the last one", pair.calls(), 511);
        DUE.is("call 512, " + name + Arrays.toString(args), pair.send(name, args), want);
    }

    private static void terms() {
        textOfForty();
        patternOfTen();
        pieceOfOneLetter();
        pieceAtSeveralPlaces();
        sameLettersOnePiece();
        beginningComesFirst();
        noAnswerDependsOnEngine();
    }

    private static void textOfForty() {
        DUE.by("Terms: a list of at most 40 letters");
        String most = FORTY.substring(1);
        from(most, "1").gives(40, most + "2", "1", "write", 2, 1);
        from(most, "1").keeps(FULL, "write", 2, 2);
        from(most, "1").gives(40, most + "1", "1", "again", 39, 1);
        from(most, "1").keeps(FULL, "again", 39, 2);
        from(FORTY, "1").keeps(FULL, "write", 2, 1);
        from(FORTY, "1").keeps(FULL, "again", 39, 1);
        from(FORTY, "1").keeps(3, "change", 39, 3);
        from(FORTY, "1").keeps(BAD, "change", 40, 3);
    }

    private static void patternOfTen() {
        DUE.by("Terms: the pattern one of at most ten");
        from(FORTY, TEN.substring(1)).gives(10, FORTY, TEN.substring(1) + "2", "extend", 2);
        from(FORTY, TEN).keeps(FULL, "extend", 2);
        from(FORTY, "3").gives(TRUE, FORTY, TEN, "copy", 28, 10);
        from(FORTY, "3").keeps(FALSE, "copy", 28, 11);
    }

    private static void pieceOfOneLetter() {
        DUE.by("Terms: a piece has at least one letter");
        for (int engine = 0; engine <= 3; engine++) {
            from("", "").keeps(0, "distinct", engine);
            from("2", "").keeps(1, "distinct", engine);
        }
        from("", "").keeps(BAD, "piece", 0);
        from("2", "").keeps(64, "piece", 0);
        from("2", "").keeps(BAD, "piece", 1);
        from("", "").keeps(0, "repeats", 1);
        from("2", "").keeps(1, "repeats", 1);
        from("2", "").keeps(1, "unique", 0);
    }

    private static void pieceAtSeveralPlaces() {
        DUE.by("Terms: it occurs where its first letter stands, and may do so at several places");
        for (int engine = 0; engine <= 4; engine++) {
            from("0100", "0").keeps(3, "count", engine);
            from("1111", "11").keeps(3, "count", engine);
            from("1111", "11").keeps(2, "where", engine, 2);
            from("1111", "1111").keeps(1, "count", engine);
        }
    }

    private static void sameLettersOnePiece() {
        DUE.by("Terms: pieces with the same letters are one piece");
        for (int engine = 0; engine <= 3; engine++) {
            from("22", "").keeps(2, "distinct", engine);
            from("2121", "").keeps(7, "distinct", engine);
        }
        from("22", "").keeps(2, "repeats", 1);
        from("22", "").keeps(64, "piece", 0);
        from("22", "").keeps(128, "piece", 1);
        from("22", "").keeps(BAD, "piece", 2);
    }

    private static void beginningComesFirst() {
        DUE.by("Terms: a list that is the beginning of another one comes before it");
        int[] tails = {1, 3, 0, 2};
        for (int engine = 0; engine <= 3; engine++) {
            for (int k = 0; k < 4; k++) {
                from("1011", "").keeps(tails[k], "tail", engine, k);
                from("3333", "").keeps(3 - k, "tail", engine, k);
            }
        }
        int[] places = {1, 1, 1, 0, 0, 0, 0, 2};
        int[] sizes = {1, 2, 3, 1, 2, 3, 4, 2};
        for (int k = 0; k < 8; k++) {
            from("1011", "").keeps(places[k] + 64 * sizes[k], "piece", k);
        }
    }

    private static void noAnswerDependsOnEngine() {
        DUE.by("Terms: no answer depends on the engine");
        // Start asks every question of every engine after each call.
        String[] texts = {
            "", "3", "33", "30", "102020", "0012012330120", FORTY, "1".repeat(40),
            "0" + "1".repeat(39), "1".repeat(39) + "0", "01".repeat(20), "3".repeat(20) + "2".repeat(20),
        };
        for (String text : texts) {
            from(text, "").keeps(text.length(), "cut", 0);
            from(text, "0").keeps(text.length(), "cut", 0);
            from(text, "1111111111").keeps(text.length(), "cut", 0);
            from(text, TEN).keeps(text.length(), "cut", 0);
        }
    }

    private static void newObject() {
        DUE.by("1: an empty text");
        from("", "").keeps(0, "cut", 0);
        from("", "").keeps(BAD, "change", 0, 0);
        from("", "").keeps(FALSE, "copy", 0, 1);
        from("", "").keeps(BAD, "again", 1, 1);
        from("", "").gives(1, "0", "", "write", 0, 1);
        from("", "").gives(40, "0".repeat(40), "", "write", 0, 40);

        DUE.by("1: an empty pattern");
        from("", "").keeps(0, "count", 0);
        from("", "").keeps(BAD, "where", 0, 0);
        from("", "").gives(1, "", "3", "extend", 3);
    }

    private static void write() {
        DUE.by("2: BAD when letter is not 0 .. 3");
        Start some = from("3120", "31");
        some.keeps(BAD, "write", LEAST, 1);
        some.keeps(BAD, "write", -1, 1);
        some.gives(5, "31200", "31", "write", 0, 1);
        some.gives(5, "31203", "31", "write", 3, 1);
        some.keeps(BAD, "write", 4, 1);
        some.keeps(BAD, "write", MOST, 1);

        DUE.by("2: BAD when n is not 1 .. 40");
        some.keeps(BAD, "write", 1, LEAST);
        some.keeps(BAD, "write", 1, -1);
        some.keeps(BAD, "write", 1, 0);
        some.gives(5, "31201", "31", "write", 1, 1);
        from("", "31").gives(40, "1".repeat(40), "31", "write", 1, 40);
        from("", "31").keeps(BAD, "write", 1, 41);
        some.keeps(BAD, "write", 1, 41);
        some.keeps(BAD, "write", 1, MOST);

        DUE.by("2: FULL, changing nothing, when it would be longer than 40");
        some.gives(40, "3120" + "2".repeat(36), "31", "write", 2, 36);
        some.keeps(FULL, "write", 2, 37);
        some.keeps(FULL, "write", 2, 40);
        from("3", "").gives(40, "3" + "2".repeat(39), "", "write", 2, 39);
        from("3", "").keeps(FULL, "write", 2, 40);
        from(FORTY, TEN).keeps(FULL, "write", 0, 1);
        from(FORTY, TEN).keeps(FULL, "write", 3, 40);

        DUE.by("2: tested in this order");
        for (Start full : new Start[] {from(FORTY, TEN), from(FORTY.substring(1), "")}) {
            full.keeps(BAD, "write", -1, 2);
            full.keeps(BAD, "write", 4, 2);
            full.keeps(BAD, "write", 0, 0);
            full.keeps(BAD, "write", 0, 41);
            full.keeps(BAD, "write", 4, 41);
            full.keeps(BAD, "write", 0, LEAST);
            full.keeps(BAD, "write", 0, MOST);
            full.keeps(FULL, "write", 0, 2);
        }
    }

    private static void again() {
        DUE.by("3: each the one that stands back places before it");
        from("012", "").gives(9, "012012012", "", "again", 3, 6);
        from("012", "").gives(9, "012121212", "", "again", 2, 6);
        from("012", "").gives(9, "012222222", "", "again", 1, 6);
        from("012", "").gives(5, "01201", "", "again", 3, 2);

        DUE.by("3: BAD when back is not from 1 to the length of the text");
        Start some = from("3120", "31");
        some.keeps(BAD, "again", LEAST, 1);
        some.keeps(BAD, "again", -1, 1);
        some.keeps(BAD, "again", 0, 1);
        some.gives(5, "31200", "31", "again", 1, 1);
        some.gives(5, "31203", "31", "again", 4, 1);
        some.keeps(BAD, "again", 5, 1);
        some.keeps(BAD, "again", 40, 1);
        some.keeps(BAD, "again", MOST, 1);
        from("2", "").gives(2, "22", "", "again", 1, 1);
        from("2", "").keeps(BAD, "again", 2, 1);
        from("", "1").keeps(BAD, "again", 0, 1);
        from("", "1").keeps(BAD, "again", 1, 1);
        from(FORTY, TEN).keeps(FULL, "again", 40, 1);
        from(FORTY, TEN).keeps(BAD, "again", 41, 1);

        DUE.by("3: BAD when n is not 1 .. 40");
        some.keeps(BAD, "again", 1, LEAST);
        some.keeps(BAD, "again", 1, -1);
        some.keeps(BAD, "again", 1, 0);
        some.gives(6, "312020", "31", "again", 2, 2);
        // There is a letter already, so that 40 more are always too many, but not BAD.
        some.keeps(FULL, "again", 1, 40);
        some.keeps(BAD, "again", 1, 41);
        some.keeps(BAD, "again", 1, MOST);

        DUE.by("3: FULL as in write");
        some.gives(40, "3120".repeat(10), "31", "again", 4, 36);
        some.keeps(FULL, "again", 4, 37);
        from("2", "").gives(40, "2".repeat(40), "", "again", 1, 39);
        from("2", "").keeps(FULL, "again", 1, 40);
        from(FORTY, TEN).keeps(FULL, "again", 1, 1);
        from(FORTY, TEN).keeps(BAD, "again", 0, 1);
        from(FORTY, TEN).keeps(BAD, "again", 1, 0);
        from(FORTY, TEN).keeps(BAD, "again", 1, 41);
        from(FORTY, TEN).keeps(BAD, "again", 41, 41);
        some.keeps(BAD, "again", 5, 37);
        some.keeps(BAD, "again", 0, 37);
    }

    private static void change() {
        DUE.by("4: BAD, changing nothing, when there is none");
        Start some = from("3120", "31");
        some.keeps(BAD, "change", LEAST, 1);
        some.keeps(BAD, "change", -1, 1);
        some.gives(3, "1120", "31", "change", 0, 1);
        some.gives(0, "3121", "31", "change", 3, 1);
        some.keeps(BAD, "change", 4, 1);
        some.keeps(BAD, "change", 39, 1);
        some.keeps(BAD, "change", 40, 1);
        some.keeps(BAD, "change", MOST, 1);
        from("", TEN).keeps(BAD, "change", 0, 1);
        from("", TEN).keeps(BAD, "change", -1, 1);
        from(FORTY, "").gives(3, FORTY.substring(0, 39) + "1", "", "change", 39, 1);
        from(FORTY, "").keeps(BAD, "change", 40, 1);

        DUE.by("4: BAD, changing nothing, when letter is not 0 .. 3");
        some.keeps(BAD, "change", 1, LEAST);
        some.keeps(BAD, "change", 1, -1);
        some.gives(1, "3020", "31", "change", 1, 0);
        some.gives(1, "3320", "31", "change", 1, 3);
        some.keeps(1, "change", 1, 1);
        some.keeps(BAD, "change", 1, 4);
        some.keeps(BAD, "change", 1, MOST);
        some.keeps(BAD, "change", 4, 4);
    }

    private static void cut() {
        DUE.by("5: BAD when n is not 0 .. 40");
        Start some = from("3120", "31");
        keepsForEach(some, BAD, "cut", LEAST, -1, 41, MOST);
        keepsForEach(from("", "31"), BAD, "cut", LEAST, -1, 41, MOST);
        keepsForEach(from(FORTY, TEN), BAD, "cut", LEAST, -1, 41, MOST);
        some.keeps(4, "cut", 0);
        some.gives(3, "312", "31", "cut", 1);
        some.gives(0, "", "31", "cut", 40);

        DUE.by("5: or all, if it has less");
        some.gives(1, "3", "31", "cut", 3);
        some.gives(0, "", "31", "cut", 4);
        some.gives(0, "", "31", "cut", 5);
        from("", "31").keeps(0, "cut", 0);
        from("", "31").keeps(0, "cut", 1);
        from("", "31").keeps(0, "cut", 40);
        from(FORTY.substring(1), TEN).gives(0, "", TEN, "cut", 40);
        // What has been cut off must not be seen by any question.
        for (int n = 0; n <= 40; n++) {
            from(FORTY, TEN).gives(40 - n, FORTY.substring(0, 40 - n), TEN, "cut", n);
        }
    }

    private static void extend() {
        DUE.by("6: BAD when letter is not 0 .. 3");
        Start some = from("3120", "31");
        keepsForEach(some, BAD, "extend", LEAST, -1, 4, MOST);
        some.gives(3, "3120", "310", "extend", 0);
        some.gives(3, "3120", "313", "extend", 3);
        keepsForEach(from("", ""), BAD, "extend", LEAST, -1, 4, MOST);
        from("", "").gives(1, "", "0", "extend", 0);

        DUE.by("6: FULL when it has ten");
        from("3120", TEN.substring(0, 9)).gives(10, "3120", TEN, "extend", 1);
        keepsForEach(from("3120", TEN), FULL, "extend", 0, 1, 2, 3);
    }

    private static void copy() {
        DUE.by("7: false, changing nothing, when n is not 0 .. 10");
        Start some = from("013203120123", "31");
        some.keeps(FALSE, "copy", 0, LEAST);
        some.keeps(FALSE, "copy", 0, -1);
        some.keeps(FALSE, "copy", 5, -1);
        some.gives(TRUE, "013203120123", "", "copy", 0, 0);
        some.gives(TRUE, "013203120123", "0132031201", "copy", 0, 10);
        some.keeps(FALSE, "copy", 0, 11);
        some.keeps(FALSE, "copy", 0, 12);
        some.keeps(FALSE, "copy", 0, MOST);
        from(FORTY, "31").keeps(FALSE, "copy", 0, 40);

        DUE.by("7: false, changing nothing, when there are not so many letters there");
        some.keeps(FALSE, "copy", -1, 3);
        some.gives(TRUE, "013203120123", "013", "copy", 0, 3);
        some.gives(TRUE, "013203120123", "123", "copy", 9, 3);
        some.keeps(FALSE, "copy", 10, 3);
        some.gives(TRUE, "013203120123", "3", "copy", 11, 1);
        some.keeps(FALSE, "copy", 12, 1);
        some.gives(TRUE, "013203120123", "3203120123", "copy", 2, 10);
        some.keeps(FALSE, "copy", 3, 10);
        from("012", "31").gives(TRUE, "012", "012", "copy", 0, 3);
        from("012", "31").keeps(FALSE, "copy", 0, 4);
        from("", "31").keeps(FALSE, "copy", 0, 1);
        from(FORTY, "31").gives(TRUE, FORTY, "2301230123", "copy", 30, 10);
        from(FORTY, "31").keeps(FALSE, "copy", 31, 10);
        // What the pattern had before must not be seen behind its new end.
        for (int n = 0; n <= 10; n++) {
            from("013203120123", TEN).gives(TRUE, "013203120123",
                    "013203120123".substring(2, 2 + n), "copy", 2, n);
        }
    }

    private static void count() {
        DUE.by("8: 0 when it is empty");
        for (int engine = 0; engine <= 4; engine++) {
            from("", "").keeps(0, "count", engine);
            from("0", "").keeps(0, "count", engine);
            from(FORTY, "").keeps(0, "count", engine);
        }

        DUE.by("8: at how many places, from none to all");
        for (int engine = 0; engine <= 4; engine++) {
            from("", "0").keeps(0, "count", engine);
            from("", TEN).keeps(0, "count", engine);
            from("1", "0").keeps(0, "count", engine);
            from("0", "0").keeps(1, "count", engine);
            from("0", "00").keeps(0, "count", engine);
            from("012", "0123").keeps(0, "count", engine);
            from(TEN, TEN).keeps(1, "count", engine);
            from(TEN.substring(0, 9), TEN).keeps(0, "count", engine);
            from(FORTY, TEN).keeps(8, "count", engine);
            from("2".repeat(40), "2").keeps(40, "count", engine);
            from("2".repeat(40), "2".repeat(10)).keeps(31, "count", engine);
            from("0".repeat(40), "3").keeps(0, "count", engine);
            from("3".repeat(40), "0").keeps(0, "count", engine);
        }

        DUE.by("8: BAD when there is no such engine");
        for (Start start : new Start[] {from("00", "0"), from("", ""), from(FORTY, TEN)}) {
            keepsForEach(start, BAD, "count", LEAST, -1, 5, MOST);
        }
        keepsForEach(from("00", "0"), 2, "count", 0, 4);
    }

    private static void where() {
        DUE.by("9: BAD when there is none");
        for (int engine = 0; engine <= 4; engine++) {
            Start some = from("0312031103", "03");
            some.keeps(BAD, "where", engine, LEAST);
            some.keeps(BAD, "where", engine, -1);
            some.keeps(0, "where", engine, 0);
            some.keeps(8, "where", engine, 2);
            some.keeps(BAD, "where", engine, 3);
            some.keeps(BAD, "where", engine, MOST);
            from("0312031103", "").keeps(BAD, "where", engine, 0);
            from("0312031103", "02").keeps(BAD, "where", engine, 0);
            from("", "").keeps(BAD, "where", engine, 0);
            from("", TEN).keeps(BAD, "where", engine, 0);
            from("1".repeat(40), "1").keeps(0, "where", engine, 0);
            from("1".repeat(40), "1").keeps(39, "where", engine, 39);
            from("1".repeat(40), "1").keeps(BAD, "where", engine, 40);
            from(FORTY, TEN).keeps(28, "where", engine, 7);
            from(FORTY, TEN).keeps(BAD, "where", engine, 8);
        }

        DUE.by("9: BAD when there is no such engine");
        for (int engine : new int[] {LEAST, -1, 5, MOST}) {
            from("00", "0").keeps(BAD, "where", engine, 0);
            from("00", "0").keeps(BAD, "where", engine, -1);
            from("", "").keeps(BAD, "where", engine, 0);
            from(FORTY, TEN).keeps(BAD, "where", engine, 0);
        }
        from("00", "0").keeps(1, "where", 0, 1);
        from("00", "0").keeps(1, "where", 4, 1);
    }

    private static void distinct() {
        DUE.by("10: the number of different pieces, from none to the most of forty letters");
        // All pairs of letters stand in it and no three letters twice: 4 + 16 + (38 + 37 + .. + 1).
        String most = "0010203112132233000210030110120130220230";
        for (int engine = 0; engine <= 3; engine++) {
            from("", TEN).keeps(0, "distinct", engine);
            from("0", "").keeps(1, "distinct", engine);
            from("0123", "").keeps(10, "distinct", engine);
            from("0".repeat(40), "").keeps(40, "distinct", engine);
            from(FORTY, TEN).keeps(154, "distinct", engine);
            from(most, "").keeps(761, "distinct", engine);
        }

        DUE.by("10: BAD when there is no such engine");
        for (Start start : new Start[] {from("01", ""), from("", ""), from(FORTY, TEN)}) {
            keepsForEach(start, BAD, "distinct", LEAST, -1, 4, 5, MOST);
        }
        keepsForEach(from("01", ""), 3, "distinct", 0, 3);
    }

    private static void longest() {
        DUE.by("11: 0 when there is none");
        for (int engine = 0; engine <= 3; engine++) {
            from("", TEN).keeps(0, "longest", engine);
            from("3", "").keeps(0, "longest", engine);
            from("3210", "").keeps(0, "longest", engine);
            from("32103", "").keeps(1, "longest", engine);
            from("33", "").keeps(1, "longest", engine);
            from("3".repeat(40), "").keeps(39, "longest", engine);
            from(FORTY, TEN).keeps(36, "longest", engine);
        }

        DUE.by("11: BAD when there is no such engine");
        for (Start start : new Start[] {from("00", ""), from("", ""), from(FORTY, TEN)}) {
            keepsForEach(start, BAD, "longest", LEAST, -1, 4, 5, MOST);
        }
        keepsForEach(from("00", ""), 1, "longest", 0, 3);
    }

    private static void tail() {
        DUE.by("12: BAD when there is none");
        for (int engine = 0; engine <= 3; engine++) {
            Start some = from("102020", "");
            some.keeps(BAD, "tail", engine, LEAST);
            some.keeps(BAD, "tail", engine, -1);
            some.keeps(5, "tail", engine, 0);
            some.keeps(2, "tail", engine, 5);
            some.keeps(BAD, "tail", engine, 6);
            some.keeps(BAD, "tail", engine, MOST);
            from("", TEN).keeps(BAD, "tail", engine, 0);
            from("3", "").keeps(0, "tail", engine, 0);
            from("3", "").keeps(BAD, "tail", engine, 1);
            from(FORTY, TEN).keeps(36, "tail", engine, 0);
            from(FORTY, TEN).keeps(3, "tail", engine, 39);
            from(FORTY, TEN).keeps(BAD, "tail", engine, 40);
        }

        DUE.by("12: BAD when there is no such engine");
        for (int engine : new int[] {LEAST, -1, 4, 5, MOST}) {
            from("01", "").keeps(BAD, "tail", engine, 0);
            from("01", "").keeps(BAD, "tail", engine, -1);
            from("", "").keeps(BAD, "tail", engine, 0);
            from(FORTY, TEN).keeps(BAD, "tail", engine, 0);
        }
        from("01", "").keeps(1, "tail", 0, 1);
        from("01", "").keeps(1, "tail", 3, 1);
    }

    private static void agree() {
        DUE.by("13: false when one is none");
        for (Start start : new Start[] {from("0120", ""), from("", ""), from(FORTY, TEN)}) {
            for (int none : new int[] {LEAST, -1, 4, 5, MOST}) {
                start.keeps(FALSE, "agree", none, 0);
                start.keeps(FALSE, "agree", none, 3);
                start.keeps(FALSE, "agree", 0, none);
                start.keeps(FALSE, "agree", 3, none);
                start.keeps(FALSE, "agree", none, none);
            }
            for (int engine = 0; engine <= 3; engine++) {
                for (int other = 0; other <= 3; other++) {
                    start.keeps(TRUE, "agree", engine, other);
                }
            }
        }
    }

    private static void piece() {
        DUE.by("14: BAD when there is none");
        Start some = from("102020", "");
        keepsForEach(some, BAD, "piece", LEAST, -1, 15, 16, MOST);
        some.keeps(1 + 64, "piece", 0);
        some.keeps(2 + 64 * 4, "piece", 14);
        from("", TEN).keeps(BAD, "piece", 0);
        from("", TEN).keeps(BAD, "piece", -1);
        from("3", "").keeps(64, "piece", 0);
        from("3", "").keeps(BAD, "piece", 1);
        from(FORTY, TEN).keeps(64, "piece", 0);
        from(FORTY, TEN).keeps(3 + 64 * 37, "piece", 153);
        from(FORTY, TEN).keeps(BAD, "piece", 154);

        DUE.by("14: the least place at which it occurs + 64 * its length, up to their last values");
        from("1".repeat(40), "").keeps(64, "piece", 0);
        from("1".repeat(40), "").keeps(64 * 40, "piece", 39);
        from("1".repeat(39) + "0", "").keeps(39 + 64, "piece", 0);
        from("1".repeat(39) + "2", "").keeps(39 + 64, "piece", 78);
    }

    private static void common() {
        DUE.by("15: BAD when one is no place");
        Start some = from("102020", "");
        for (int none : new int[] {LEAST, -1, 6, 39, 40, MOST}) {
            some.keeps(BAD, "common", none, 0);
            some.keeps(BAD, "common", none, 5);
            some.keeps(BAD, "common", 0, none);
            some.keeps(BAD, "common", 5, none);
            some.keeps(BAD, "common", none, none);
        }
        some.keeps(0, "common", 0, 5);
        some.keeps(0, "common", 5, 0);
        from("", TEN).keeps(BAD, "common", 0, 0);
        from("3", "").keeps(1, "common", 0, 0);
        from("3", "").keeps(BAD, "common", 0, 1);
        from("3", "").keeps(BAD, "common", 1, 0);
        from(FORTY, TEN).keeps(BAD, "common", 0, 40);
        from(FORTY, TEN).keeps(BAD, "common", 40, 0);

        DUE.by("15: the letters in common, from none to the whole tail");
        some.keeps(0, "common", 0, 1);
        some.keeps(3, "common", 1, 3);
        some.keeps(6, "common", 0, 0);
        some.keeps(1, "common", 5, 5);
        some.keeps(1, "common", 1, 5);
        some.keeps(1, "common", 5, 1);
        from(FORTY, TEN).keeps(40, "common", 0, 0);
        from(FORTY, TEN).keeps(36, "common", 0, 4);
        from(FORTY, TEN).keeps(1, "common", 39, 3);
        from(FORTY, TEN).keeps(0, "common", 0, 39);
    }

    private static void repeats() {
        DUE.by("16: BAD when t is below 1");
        for (Start start : new Start[] {from("102020", ""), from("", ""), from(FORTY, TEN)}) {
            keepsForEach(start, BAD, "repeats", LEAST, -1, 0);
        }
        from("102020", "").keeps(15, "repeats", 1);
        from("", TEN).keeps(0, "repeats", 1);
        from(FORTY, TEN).keeps(154, "repeats", 1);

        DUE.by("16: t places or more, up to a t that no piece reaches");
        from("102020", "").keeps(5, "repeats", 2);
        from("102020", "").keeps(1, "repeats", 3);
        from("102020", "").keeps(0, "repeats", 4);
        from("102020", "").keeps(0, "repeats", MOST);
        from("", TEN).keeps(0, "repeats", MOST);
        from(FORTY, TEN).keeps(138, "repeats", 2);
        from(FORTY, TEN).keeps(10, "repeats", 10);
        from(FORTY, TEN).keeps(0, "repeats", 11);
        from("1".repeat(40), "").keeps(1, "repeats", 40);
        from("1".repeat(40), "").keeps(0, "repeats", 41);
    }

    private static void unique() {
        DUE.by("17: 0 when there is none");
        Start some = from("102020", "");
        some.keeps(1, "unique", 0);
        some.keeps(4, "unique", 1);
        some.keeps(3, "unique", 2);
        some.keeps(0, "unique", 3);
        some.keeps(0, "unique", 5);
        from("3", "").keeps(1, "unique", 0);
        from("1".repeat(40), "").keeps(40, "unique", 0);
        from("1".repeat(40), "").keeps(0, "unique", 1);
        from("1".repeat(40), "").keeps(0, "unique", 39);
        from("1".repeat(39) + "0", "").keeps(1, "unique", 39);
        from(FORTY, TEN).keeps(37, "unique", 0);
        from(FORTY, TEN).keeps(34, "unique", 3);
        from(FORTY, TEN).keeps(0, "unique", 4);

        DUE.by("17: BAD when i is no place");
        keepsForEach(some, BAD, "unique", LEAST, -1, 6, 39, 40, MOST);
        keepsForEach(from("", TEN), BAD, "unique", LEAST, -1, 0, 1, MOST);
        keepsForEach(from(FORTY, TEN), BAD, "unique", LEAST, -1, 40, MOST);
        from(FORTY, TEN).keeps(0, "unique", 39);
    }

    private static void orderAndLimits() {
        DUE.by("18: in extend BAD is tested before FULL");
        keepsForEach(from("012", TEN), BAD, "extend", LEAST, -1, 4, MOST);
        keepsForEach(from("012", TEN), FULL, "extend", 0, 3);

        DUE.by("18: cut, extend, write and again change nothing when they answer BAD or FULL");
        for (Start full : new Start[] {from(FORTY, TEN), from("1".repeat(40), "2".repeat(10))}) {
            keepsForEach(full, BAD, "cut", -1, 41);
            keepsForEach(full, BAD, "extend", -1, 4);
            full.keeps(FULL, "extend", 3);
            full.keeps(BAD, "write", 4, 1);
            full.keeps(BAD, "write", 3, 0);
            full.keeps(FULL, "write", 3, 1);
            full.keeps(BAD, "again", 41, 1);
            full.keeps(BAD, "again", 1, 0);
            full.keeps(FULL, "again", 3, 1);
        }
        refusedInARow();

        copyJustWhen();

        DUE.by("18: a number that is no engine answers BAD before anything else is looked at");
        // On an empty text or pattern 0 would be due from an engine that there is.
        for (Start start : new Start[] {from("", ""), from("", TEN), from(FORTY, "")}) {
            keepsForEach(start, BAD, "count", -1, 5);
            keepsForEach(start, BAD, "longest", -1, 4);
            for (int k : new int[] {LEAST, -1, 0, 39, 40, MOST}) {
                start.keeps(BAD, "where", -1, k);
                start.keeps(BAD, "where", 5, k);
                start.keeps(BAD, "tail", -1, k);
                start.keeps(BAD, "tail", 4, k);
            }
        }
    }

    /** Refused calls, one after another on one object, still change nothing together. */
    private static void refusedInARow() {
        Pair pair = new Pair(DUE);
        pair.begin(FORTY, TEN);
        int[] edges = {LEAST, -1, 41, MOST};
        for (int edge : edges) {
            pair.cut(edge);
            pair.extend(edge);
            pair.write(edge, 1);
            pair.write(0, edge);
            pair.again(edge, 1);
            pair.again(1, edge);
            pair.change(edge, 0);
            pair.change(0, edge);
            pair.copy(edge, 1);
            pair.copy(0, edge);
        }
        pair.write(1, 1);
        pair.again(1, 1);
        pair.extend(1);
        DUE.is("the text after refused calls", pair.model.text().equals(FORTY), true);
        DUE.is("the pattern after refused calls", pair.model.pattern().equals(TEN), true);
        pair.askAll();
        pair.readText();
        pair.readPatternAndSpoilAll();
    }

    private static void copyJustWhen() {
        DUE.by("18: copy answers true just when n is 0 .. 10, i is 0 or more, and i + n is not above");
        String[] texts = {"", "2", "012301230", TEN, TEN + "2", FORTY};
        for (String text : texts) {
            for (int i = -2; i <= text.length() + 2; i++) {
                for (int n = -2; n <= 12; n++) {
                    boolean may = n >= 0 && n <= 10 && i >= 0 && i + n <= text.length();
                    String after = may ? text.substring(i, i + n) : "31";
                    from(text, "31").gives(may ? TRUE : FALSE, text, after, "copy", i, n);
                }
            }
        }

        DUE.by("18: for n 0 place i may be that length too, and the pattern is empty then");
        from("", TEN).gives(TRUE, "", "", "copy", 0, 0);
        from("", TEN).keeps(FALSE, "copy", 1, 0);
        from("012", TEN).gives(TRUE, "012", "", "copy", 2, 0);
        from("012", TEN).gives(TRUE, "012", "", "copy", 3, 0);
        from("012", TEN).keeps(FALSE, "copy", 4, 0);
        from(FORTY, TEN).gives(TRUE, FORTY, "", "copy", 40, 0);
        from(FORTY, TEN).keeps(FALSE, "copy", 41, 0);

        DUE.by("18: i + n, where the sum of two ints would wrap around");
        for (Start start : new Start[] {from("012", "31"), from("", ""), from(FORTY, TEN)}) {
            start.keeps(FALSE, "copy", MOST, 0);
            start.keeps(FALSE, "copy", MOST, 1);
            start.keeps(FALSE, "copy", MOST - 9, 10);
            start.keeps(FALSE, "copy", MOST, 10);
            start.keeps(FALSE, "copy", 1, MOST);
            start.keeps(FALSE, "copy", MOST, MOST);
            start.keeps(FALSE, "copy", LEAST, 0);
            start.keeps(FALSE, "copy", LEAST, 10);
            start.keeps(FALSE, "copy", 0, LEAST);
            start.keeps(FALSE, "copy", LEAST, LEAST);
            start.keeps(FALSE, "copy", MOST, LEAST);
            start.keeps(FALSE, "copy", -1, 1);
            start.keeps(FALSE, "copy", 3, -3);
        }
    }
}
