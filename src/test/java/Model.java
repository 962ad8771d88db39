import java.util.TreeSet;

/** The document in its plainest form, over strings and sets; engines make no difference. */
final class Model {
    private static final int BAD = -1;
    private static final int FULL = -2;

    private String text = "";
    private String pattern = "";
    private String listedText = "";
    private String[] listed = new String[0];

    String text() {
        return text;
    }

    String pattern() {
        return pattern;
    }

    int write(int letter, int n) {
        if (letter < 0 || letter > 3 || n < 1 || n > 40) {
            return BAD;
        }
        if (text.length() + n > 40) {
            return FULL;
        }
        text += String.valueOf(letter).repeat(n);
        return text.length();
    }

    int again(int back, int n) {
        if (back < 1 || back > text.length() || n < 1 || n > 40) {
            return BAD;
        }
        if (text.length() + n > 40) {
            return FULL;
        }
        for (int step = 0; step < n; step++) {
            text += text.charAt(text.length() - back);
        }
        return text.length();
    }

    int change(int i, int letter) {
        if (!isPlace(i) || letter < 0 || letter > 3) {
            return BAD;
        }
        int old = text.charAt(i) - '0';
        text = text.substring(0, i) + letter + text.substring(i + 1);
        return old;
    }

    int cut(int n) {
        if (n < 0 || n > 40) {
            return BAD;
        }
        text = text.substring(0, Math.max(0, text.length() - n));
        return text.length();
    }

    int extend(int letter) {
        if (letter < 0 || letter > 3) {
            return BAD;
        }
        if (pattern.length() == 10) {
            return FULL;
        }
        pattern += letter;
        return pattern.length();
    }

    boolean copy(int i, int n) {
        if (n < 0 || n > 10 || i < 0 || (long) i + n > text.length()) {
            return false;
        }
        pattern = text.substring(i, i + n);
        return true;
    }

    int count(int engine) {
        if (engine < 0 || engine > 4) {
            return BAD;
        }
        return pattern.isEmpty() ? 0 : times(pattern);
    }

    int where(int engine, int k) {
        if (engine < 0 || engine > 4 || pattern.isEmpty()) {
            return BAD;
        }
        int number = 0;
        for (int place = 0; place < text.length(); place++) {
            if (text.startsWith(pattern, place) && number++ == k) {
                return place;
            }
        }
        return BAD;
    }

    int distinct(int engine) {
        return engine < 0 || engine > 3 ? BAD : pieces().length;
    }

    int longest(int engine) {
        if (engine < 0 || engine > 3) {
            return BAD;
        }
        int most = 0;
        for (String piece : pieces()) {
            if (piece.length() > most && times(piece) >= 2) {
                most = piece.length();
            }
        }
        return most;
    }

    int tail(int engine, int k) {
        if (engine < 0 || engine > 3 || !isPlace(k)) {
            return BAD;
        }
        TreeSet<String> tails = new TreeSet<>();
        for (int place = 0; place < text.length(); place++) {
            tails.add(text.substring(place));
        }
        return text.length() - tails.toArray(new String[0])[k].length();
    }

    boolean agree(int engine, int other) {
        return engine >= 0 && engine <= 3 && other >= 0 && other <= 3;
    }

    int piece(int k) {
        String[] all = pieces();
        return k < 0 || k >= all.length ? BAD : text.indexOf(all[k]) + 64 * all[k].length();
    }

    int common(int i, int j) {
        if (!isPlace(i) || !isPlace(j)) {
            return BAD;
        }
        int same = 0;
        while (isPlace(i + same) && isPlace(j + same)
                && text.charAt(i + same) == text.charAt(j + same)) {
            same++;
        }
        return same;
    }

    int repeats(int t) {
        if (t < 1) {
            return BAD;
        }
        int number = 0;
        for (String piece : pieces()) {
            number += times(piece) >= t ? 1 : 0;
        }
        return number;
    }

    int unique(int i) {
        if (!isPlace(i)) {
            return BAD;
        }
        for (int size = 1; i + size <= text.length(); size++) {
            if (times(text.substring(i, i + size)) == 1) {
                return size;
            }
        }
        return 0;
    }

    private boolean isPlace(int i) {
        return i >= 0 && i < text.length();
    }

    private int times(String piece) {
        int number = 0;
        for (int place = text.indexOf(piece); place >= 0; place = text.indexOf(piece, place + 1)) {
            number++;
        }
        return number;
    }

    private String[] pieces() {
        if (!listedText.equals(text)) {
            TreeSet<String> all = new TreeSet<>();
            for (int from = 0; from < text.length(); from++) {
                for (int to = from + 1; to <= text.length(); to++) {
                    all.add(text.substring(from, to));
                }
            }
            listed = all.toArray(new String[0]);
            listedText = text;
        }
        return listed;
    }
}
