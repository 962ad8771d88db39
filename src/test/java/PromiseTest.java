/** Each promise by its number: ordinary inputs, the edges that the document names, wrong inputs. */
public final class PromiseTest {
    private static final int BAD = SuffixWorkbench.BAD;
    private static final int FULL = SuffixWorkbench.FULL;
    private static final int LEAST = Integer.MIN_VALUE;
    private static final int MOST = Integer.MAX_VALUE;
    private static final int[] NO_ENGINE_AT_ALL = {LEAST, -5, -1, 5, 6, MOST};
    private static final int[] NO_ARRANGER = {LEAST, -4, -1, 4, 5, MOST};
    private static final Due DUE = new Due("PromiseTest");

    public static void main(String[] args) {
        newObject();
        write();
        again();
        change();
        cut();
        extend();
        copy();
        count();
        where();
        distinct();
        longest();
        tail();
        agree();
        piece();
        common();
        repeats();
        unique();
        orderAndLimits();
        DUE.end();
    }

    private static SuffixWorkbench of(String letters) {
        SuffixWorkbench x = new SuffixWorkbench();
        for (int i = 0; i < letters.length(); i++) {
            x.write(letters.charAt(i) - '0', 1);
        }
        return x;
    }

    private static SuffixWorkbench of(String letters, String pattern) {
        SuffixWorkbench x = of(letters);
        for (int i = 0; i < pattern.length(); i++) {
            x.extend(pattern.charAt(i) - '0');
        }
        return x;
    }

    /** The text as it can be read from outside: by changing each letter to itself. */
    private static void textIs(String after, SuffixWorkbench x, String letters) {
        DUE.is(after + ": length", x.cut(0), letters.length());
        for (int i = 0; i < letters.length(); i++) {
            int letter = letters.charAt(i) - '0';
            DUE.is(after + ": letter " + i, x.change(i, letter), letter);
        }
        DUE.is(after + ": no letter more", x.change(letters.length(), 0), BAD);
    }

    /** That the pattern is this piece of the text, which must occur there just once. */
    private static void patternIsAt(String after, SuffixWorkbench x, int place) {
        DUE.is(after + ": count", x.count(0), 1);
        DUE.is(after + ": where", x.where(0, 0), place);
    }

    private static void newObject() {
        SuffixWorkbench x = new SuffixWorkbench();
        textIs("1 new", x, "");
        DUE.is("1 new: pattern", x.extend(0), 1);
        SuffixWorkbench y = new SuffixWorkbench();
        y.write(0, 7);
        DUE.is("1 two objects share nothing", x.cut(0), 0);
        DUE.is("1 two patterns share nothing", y.extend(0), 1);
    }

    private static void write() {
        SuffixWorkbench x = new SuffixWorkbench();
        DUE.is("2 write(3, 2)", x.write(3, 2), 2);
        DUE.is("2 write(0, 1)", x.write(0, 1), 3);
        DUE.is("2 write(1, 3)", x.write(1, 3), 6);
        textIs("2 write", x, "330111");
        int[] noLetter = {LEAST, -1, 4, MOST};
        for (int letter : noLetter) {
            DUE.is("2 write(" + letter + ", 1)", x.write(letter, 1), BAD);
            DUE.is("2 write(" + letter + ", 40)", x.write(letter, 40), BAD);
        }
        int[] noNumber = {LEAST, -1, 0, 41, MOST};
        for (int n : noNumber) {
            DUE.is("2 write(0, " + n + ")", x.write(0, n), BAD);
        }
        DUE.is("2 write(2, 35)", x.write(2, 35), FULL);
        DUE.is("2 write(2, 40)", x.write(2, 40), FULL);
        textIs("2 write, refused", x, "330111");
        DUE.is("2 write(2, 34)", x.write(2, 34), 40);
        DUE.is("2 write(2, 1), full", x.write(2, 1), FULL);
        DUE.is("2 write(4, 1), full", x.write(4, 1), BAD);
        DUE.is("2 write(2, 41), full", x.write(2, 41), BAD);
        textIs("2 write, full", x, "330111" + "2".repeat(34));
        DUE.is("2 write(0, 40)", new SuffixWorkbench().write(0, 40), 40);
    }

    private static void again() {
        SuffixWorkbench x = of("0123");
        DUE.is("3 again(4, 2)", x.again(4, 2), 6);
        textIs("3 again(4, 2)", x, "012301");
        DUE.is("3 again(2, 5)", x.again(2, 5), 11);
        textIs("3 again over its own letters", x, "01230101010");
        DUE.is("3 again(11, 1)", x.again(11, 1), 12);
        DUE.is("3 again(1, 3)", x.again(1, 3), 15);
        textIs("3 again(1, 3)", x, "012301010100000");
        int[] noBack = {LEAST, -1, 0, 16, 40, MOST};
        for (int back : noBack) {
            DUE.is("3 again(" + back + ", 1)", x.again(back, 1), BAD);
            DUE.is("3 again(" + back + ", 40)", x.again(back, 40), BAD);
        }
        int[] noNumber = {LEAST, -1, 0, 41, MOST};
        for (int n : noNumber) {
            DUE.is("3 again(1, " + n + ")", x.again(1, n), BAD);
        }
        DUE.is("3 again(1, 26)", x.again(1, 26), FULL);
        textIs("3 again, refused", x, "012301010100000");
        DUE.is("3 again(15, 25)", x.again(15, 25), 40);
        textIs("3 again, full", x, "0123010101000000123010101000000123010101");
        DUE.is("3 again(40, 1), full", x.again(40, 1), FULL);
        DUE.is("3 again(41, 1), full", x.again(41, 1), BAD);
        DUE.is("3 again(1, 41), full", x.again(1, 41), BAD);
        DUE.is("3 again, empty", new SuffixWorkbench().again(1, 1), BAD);
        DUE.is("3 again(0, 1), empty", new SuffixWorkbench().again(0, 1), BAD);
    }

    private static void change() {
        SuffixWorkbench x = of("0123");
        DUE.is("4 change(0, 3)", x.change(0, 3), 0);
        DUE.is("4 change(3, 0)", x.change(3, 0), 3);
        DUE.is("4 change(2, 2)", x.change(2, 2), 2);
        textIs("4 change", x, "3120");
        int[] noPlace = {LEAST, -1, 4, 39, 40, MOST};
        for (int i : noPlace) {
            DUE.is("4 change(" + i + ", 0)", x.change(i, 0), BAD);
        }
        int[] noLetter = {LEAST, -1, 4, MOST};
        for (int letter : noLetter) {
            DUE.is("4 change(1, " + letter + ")", x.change(1, letter), BAD);
        }
        textIs("4 change, refused", x, "3120");
        x.cut(1);
        DUE.is("4 change of a letter that was cut off", x.change(3, 0), BAD);
        SuffixWorkbench y = of("3".repeat(40));
        DUE.is("4 change(39, 1)", y.change(39, 1), 3);
        DUE.is("4 change(40, 1)", y.change(40, 1), BAD);
        DUE.is("4 change, empty", new SuffixWorkbench().change(0, 0), BAD);
    }

    private static void cut() {
        SuffixWorkbench x = of("0123012");
        DUE.is("5 cut(0)", x.cut(0), 7);
        DUE.is("5 cut(2)", x.cut(2), 5);
        textIs("5 cut(2)", x, "01230");
        int[] noNumber = {LEAST, -1, 41, MOST};
        for (int n : noNumber) {
            DUE.is("5 cut(" + n + ")", x.cut(n), BAD);
        }
        textIs("5 cut, refused", x, "01230");
        DUE.is("5 cut(5)", x.cut(5), 0);
        DUE.is("5 cut(1), empty", x.cut(1), 0);
        x.write(1, 3);
        DUE.is("5 cut(4) of three", x.cut(4), 0);
        x.write(1, 40);
        DUE.is("5 cut(40) of forty", x.cut(40), 0);
        x.write(2, 39);
        DUE.is("5 cut(40) of less", x.cut(40), 0);
        textIs("5 cut, all", x, "");
    }

    private static void extend() {
        SuffixWorkbench x = of("0012301230123");
        for (int length = 1; length <= 10; length++) {
            DUE.is("6 extend", x.extend((length - 1) % 4), length);
        }
        patternIsAt("6 extend", x, 1);
        DUE.is("6 extend(0), full", x.extend(0), FULL);
        DUE.is("6 extend(3), full", x.extend(3), FULL);
        patternIsAt("6 extend, full", x, 1);
        SuffixWorkbench y = of("01", "01");
        int[] noLetter = {LEAST, -1, 4, MOST};
        for (int letter : noLetter) {
            DUE.is("6 extend(" + letter + ")", y.extend(letter), BAD);
        }
        patternIsAt("6 extend, refused", y, 0);
        DUE.is("6 extend after BAD", y.extend(3), 3);
        textIs("6 extend leaves the text", y, "01");
    }

    private static void copy() {
        SuffixWorkbench x = of("001122330123");
        DUE.is("7 copy(2, 4)", x.copy(2, 4), true);
        patternIsAt("7 copy(2, 4)", x, 2);
        DUE.is("7 copy(8, 4)", x.copy(8, 4), true);
        patternIsAt("7 copy(8, 4)", x, 8);
        DUE.is("7 copy(9, 4)", x.copy(9, 4), false);
        DUE.is("7 copy(13, 0)", x.copy(13, 0), false);
        DUE.is("7 copy(-1, 0)", x.copy(-1, 0), false);
        DUE.is("7 copy(-1, 3)", x.copy(-1, 3), false);
        DUE.is("7 copy(0, -1)", x.copy(0, -1), false);
        DUE.is("7 copy(0, 11)", x.copy(0, 11), false);
        DUE.is("7 copy(least, 1)", x.copy(LEAST, 1), false);
        DUE.is("7 copy(most, 1)", x.copy(MOST, 1), false);
        DUE.is("7 copy(most, 10)", x.copy(MOST, 10), false);
        DUE.is("7 copy(0, least)", x.copy(0, LEAST), false);
        DUE.is("7 copy(0, most)", x.copy(0, MOST), false);
        DUE.is("7 copy(20, -10)", x.copy(20, -10), false);
        patternIsAt("7 copy, refused", x, 8);
        DUE.is("7 copy(2, 10)", x.copy(2, 10), true);
        patternIsAt("7 copy(2, 10)", x, 2);
        DUE.is("7 the pattern has ten", x.extend(0), FULL);
        DUE.is("7 copy(0, 3)", x.copy(0, 3), true);
        DUE.is("7 the pattern has three", x.extend(1), 4);
        patternIsAt("7 copy and extend", x, 0);
        x.change(0, 3);
        DUE.is("7 the pattern stays when the text changes", x.count(0), 0);
        x.change(0, 0);
        patternIsAt("7 the pattern has stayed", x, 0);
        textIs("7 copy leaves the text", x, "001122330123");
    }

    private static void count() {
        for (int engine = 0; engine <= 4; engine++) {
            String call = "8 count(" + engine + ") of ";
            DUE.is(call + "banana", of("102020", "020").count(engine), 2);
            DUE.is(call + "an end", of("102020", "20").count(engine), 2);
            DUE.is(call + "a beginning", of("102020", "10").count(engine), 1);
            DUE.is(call + "overlaps", of("0000000", "000").count(engine), 5);
            DUE.is(call + "an absent letter", of("102020", "3").count(engine), 0);
            DUE.is(call + "an absent piece", of("102020", "022").count(engine), 0);
            DUE.is(call + "one that goes over the end", of("102020", "0202").count(engine), 1);
            DUE.is(call + "one longer than the text", of("00", "000").count(engine), 0);
            DUE.is(call + "the whole text", of("0123", "0123").count(engine), 1);
            DUE.is(call + "one in an empty text", of("", "0").count(engine), 0);
            DUE.is(call + "the empty one", of("0123", "").count(engine), 0);
            DUE.is(call + "the empty one, empty text", of("", "").count(engine), 0);
            DUE.is(call + "one letter in forty", of("2".repeat(40), "2").count(engine), 40);
            DUE.is(call + "ten letters in forty", of("2".repeat(40), "2222222222").count(engine), 31);
        }
        for (int engine : NO_ENGINE_AT_ALL) {
            DUE.is("8 count(" + engine + ")", of("00", "0").count(engine), BAD);
            DUE.is("8 count(" + engine + "), empty", of("", "").count(engine), BAD);
        }
    }

    private static void where() {
        for (int engine = 0; engine <= 4; engine++) {
            String call = "9 where(" + engine + ", ";
            SuffixWorkbench x = of("0312031103", "03");
            DUE.is(call + "0)", x.where(engine, 0), 0);
            DUE.is(call + "1)", x.where(engine, 1), 4);
            DUE.is(call + "2)", x.where(engine, 2), 8);
            DUE.is(call + "3)", x.where(engine, 3), BAD);
            DUE.is(call + "-1)", x.where(engine, -1), BAD);
            DUE.is(call + "least)", x.where(engine, LEAST), BAD);
            DUE.is(call + "most)", x.where(engine, MOST), BAD);
            DUE.is(call + "0), absent", of("0123", "02").where(engine, 0), BAD);
            DUE.is(call + "0), empty pattern", of("0123", "").where(engine, 0), BAD);
            DUE.is(call + "0), empty text", of("", "0").where(engine, 0), BAD);
            DUE.is(call + "39)", of("2".repeat(40), "2").where(engine, 39), 39);
            DUE.is(call + "40)", of("2".repeat(40), "2").where(engine, 40), BAD);
        }
        for (int engine : NO_ENGINE_AT_ALL) {
            DUE.is("9 where(" + engine + ", 0)", of("00", "0").where(engine, 0), BAD);
        }
    }

    private static void distinct() {
        for (int engine = 0; engine <= 3; engine++) {
            String call = "10 distinct(" + engine + ") of ";
            DUE.is(call + "nothing", of("").distinct(engine), 0);
            DUE.is(call + "a letter", of("3").distinct(engine), 1);
            DUE.is(call + "banana", of("102020").distinct(engine), 15);
            DUE.is(call + "four letters", of("0123").distinct(engine), 10);
            DUE.is(call + "abab", of("0101").distinct(engine), 7);
            DUE.is(call + "forty", of("1".repeat(40)).distinct(engine), 40);
        }
        for (int engine : NO_ARRANGER) {
            DUE.is("10 distinct(" + engine + ")", of("01").distinct(engine), BAD);
        }
    }

    private static void longest() {
        for (int engine = 0; engine <= 3; engine++) {
            String call = "11 longest(" + engine + ") of ";
            DUE.is(call + "nothing", of("").longest(engine), 0);
            DUE.is(call + "a letter", of("3").longest(engine), 0);
            DUE.is(call + "banana", of("102020").longest(engine), 3);
            DUE.is(call + "four letters", of("0123").longest(engine), 0);
            DUE.is(call + "two letters", of("33").longest(engine), 1);
            DUE.is(call + "forty", of("1".repeat(40)).longest(engine), 39);
        }
        for (int engine : NO_ARRANGER) {
            DUE.is("11 longest(" + engine + ")", of("11").longest(engine), BAD);
            DUE.is("11 longest(" + engine + "), empty", of("").longest(engine), BAD);
        }
    }

    private static void tail() {
        int[] banana = {5, 3, 1, 0, 4, 2};
        for (int engine = 0; engine <= 3; engine++) {
            String call = "12 tail(" + engine + ", ";
            SuffixWorkbench x = of("102020");
            for (int k = 0; k < 6; k++) {
                DUE.is(call + k + ")", x.tail(engine, k), banana[k]);
            }
            DUE.is(call + "6)", x.tail(engine, 6), BAD);
            DUE.is(call + "-1)", x.tail(engine, -1), BAD);
            DUE.is(call + "least)", x.tail(engine, LEAST), BAD);
            DUE.is(call + "most)", x.tail(engine, MOST), BAD);
            DUE.is(call + "0), empty", of("").tail(engine, 0), BAD);
            DUE.is(call + "0), a letter", of("3").tail(engine, 0), 0);
            SuffixWorkbench forty = of("1".repeat(40));
            DUE.is(call + "0), forty", forty.tail(engine, 0), 39);
            DUE.is(call + "39), forty", forty.tail(engine, 39), 0);
            DUE.is(call + "40), forty", forty.tail(engine, 40), BAD);
        }
        for (int engine : NO_ARRANGER) {
            DUE.is("12 tail(" + engine + ", 0)", of("01").tail(engine, 0), BAD);
        }
    }

    private static void agree() {
        String[] texts = {"", "0", "102020", "0100101001001", "3".repeat(40)};
        for (String letters : texts) {
            SuffixWorkbench x = of(letters);
            for (int engine = 0; engine <= 3; engine++) {
                for (int other = 0; other <= 3; other++) {
                    DUE.is("13 agree(" + engine + ", " + other + ")", x.agree(engine, other), true);
                }
                for (int other : NO_ARRANGER) {
                    DUE.is("13 agree(" + engine + ", " + other + ")", x.agree(engine, other), false);
                    DUE.is("13 agree(" + other + ", " + engine + ")", x.agree(other, engine), false);
                    DUE.is("13 agree(" + other + ", " + other + ")", x.agree(other, other), false);
                }
            }
        }
    }

    private static void piece() {
        SuffixWorkbench x = of("102020");
        int[] places = {1, 1, 1, 1, 1, 0, 0, 0, 0, 0, 0, 2, 2, 2, 2};
        int[] sizes = {1, 2, 3, 4, 5, 1, 2, 3, 4, 5, 6, 1, 2, 3, 4};
        for (int k = 0; k < 15; k++) {
            DUE.is("14 piece(" + k + ")", x.piece(k), places[k] + 64 * sizes[k]);
        }
        DUE.is("14 piece(15)", x.piece(15), BAD);
        DUE.is("14 piece(-1)", x.piece(-1), BAD);
        DUE.is("14 piece(least)", x.piece(LEAST), BAD);
        DUE.is("14 piece(most)", x.piece(MOST), BAD);
        DUE.is("14 piece(0), empty", of("").piece(0), BAD);
        DUE.is("14 piece(0), a letter", of("3").piece(0), 64);
        DUE.is("14 piece(39), forty", of("3".repeat(40)).piece(39), 40 * 64);
        DUE.is("14 piece(40), forty", of("3".repeat(40)).piece(40), BAD);
    }

    private static void common() {
        SuffixWorkbench x = of("102020");
        DUE.is("15 common(1, 3)", x.common(1, 3), 3);
        DUE.is("15 common(3, 1)", x.common(3, 1), 3);
        DUE.is("15 common(1, 5)", x.common(1, 5), 1);
        DUE.is("15 common(0, 1)", x.common(0, 1), 0);
        DUE.is("15 common(2, 2)", x.common(2, 2), 4);
        int[] noPlace = {LEAST, -1, 6, 40, MOST};
        for (int i : noPlace) {
            DUE.is("15 common(" + i + ", 0)", x.common(i, 0), BAD);
            DUE.is("15 common(0, " + i + ")", x.common(0, i), BAD);
            DUE.is("15 common(" + i + ", " + i + ")", x.common(i, i), BAD);
        }
        DUE.is("15 common(0, 0), empty", of("").common(0, 0), BAD);
        DUE.is("15 common(0, 39)", of("3".repeat(40)).common(0, 39), 1);
        DUE.is("15 common(0, 0)", of("3".repeat(40)).common(0, 0), 40);
        DUE.is("15 letters that were cut off", afterCut("0101", 1).common(0, 2), 1);
    }

    private static SuffixWorkbench afterCut(String letters, int n) {
        SuffixWorkbench x = of(letters);
        x.cut(n);
        return x;
    }

    private static void repeats() {
        SuffixWorkbench x = of("102020");
        DUE.is("16 repeats(1)", x.repeats(1), 15);
        DUE.is("16 repeats(2)", x.repeats(2), 5);
        DUE.is("16 repeats(3)", x.repeats(3), 1);
        DUE.is("16 repeats(4)", x.repeats(4), 0);
        DUE.is("16 repeats(most)", x.repeats(MOST), 0);
        DUE.is("16 repeats(0)", x.repeats(0), BAD);
        DUE.is("16 repeats(-1)", x.repeats(-1), BAD);
        DUE.is("16 repeats(least)", x.repeats(LEAST), BAD);
        DUE.is("16 repeats(1), empty", of("").repeats(1), 0);
        DUE.is("16 repeats(0), empty", of("").repeats(0), BAD);
        SuffixWorkbench forty = of("3".repeat(40));
        for (int t = 1; t <= 41; t++) {
            DUE.is("16 repeats(" + t + "), forty", forty.repeats(t), 41 - t);
        }
    }

    private static void unique() {
        SuffixWorkbench x = of("102020");
        int[] sizes = {1, 4, 3, 0, 0, 0};
        for (int i = 0; i < 6; i++) {
            DUE.is("17 unique(" + i + ")", x.unique(i), sizes[i]);
        }
        int[] noPlace = {LEAST, -1, 6, 40, MOST};
        for (int i : noPlace) {
            DUE.is("17 unique(" + i + ")", x.unique(i), BAD);
        }
        DUE.is("17 unique(0), empty", of("").unique(0), BAD);
        DUE.is("17 unique(0), a letter", of("3").unique(0), 1);
        SuffixWorkbench forty = of("3".repeat(40));
        DUE.is("17 unique(0), forty", forty.unique(0), 40);
        DUE.is("17 unique(1), forty", forty.unique(1), 0);
        DUE.is("17 unique(39), forty", forty.unique(39), 0);
        DUE.is("17 unique(40), forty", forty.unique(40), BAD);
    }

    private static void orderAndLimits() {
        SuffixWorkbench x = of("0".repeat(40), "0000000000");
        DUE.is("18 extend(4), full", x.extend(4), BAD);
        DUE.is("18 extend(-1), full", x.extend(-1), BAD);
        DUE.is("18 extend(0), full", x.extend(0), FULL);
        DUE.is("18 the pattern is as it was", x.count(0), 31);
        DUE.is("18 write(0, 1), full", x.write(0, 1), FULL);
        DUE.is("18 again(1, 1), full", x.again(1, 1), FULL);
        DUE.is("18 cut(41), full", x.cut(41), BAD);
        DUE.is("18 cut(-1), full", x.cut(-1), BAD);
        textIs("18 the text is as it was", x, "0".repeat(40));
        DUE.is("18 copy(40, 0), full", x.copy(40, 0), true);
        DUE.is("18 the pattern is empty", x.count(0), 0);
        DUE.is("18 copy(41, 0), full", x.copy(41, 0), false);
        SuffixWorkbench y = of("012", "01");
        DUE.is("18 copy(3, 1)", y.copy(3, 1), false);
        DUE.is("18 copy(4, 0)", y.copy(4, 0), false);
        patternIsAt("18 the pattern is as it was", y, 0);
        DUE.is("18 copy(3, 0)", y.copy(3, 0), true);
        DUE.is("18 the pattern is empty", y.extend(0), 1);
        DUE.is("18 copy(0, 0), empty", of("").copy(0, 0), true);
        DUE.is("18 copy(1, 0), empty", of("").copy(1, 0), false);
        DUE.is("18 count(5), empty", of("").count(5), BAD);
        DUE.is("18 where(-1, 0), empty", of("").where(-1, 0), BAD);
        DUE.is("18 longest(4), empty", of("").longest(4), BAD);
        DUE.is("18 tail(4, 0), empty", of("").tail(4, 0), BAD);
    }
}
