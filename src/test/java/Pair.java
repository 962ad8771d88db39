/** A workbench and the model side by side: each call goes to both, and the answers must be equal. */
final class Pair {
    final SuffixWorkbench bench = new SuffixWorkbench();
    final Model model = new Model();
    private final Due due;
    private final StringBuilder run = new StringBuilder();
    private int calls = 0;

    Pair(Due due) {
        this.due = due;
    }

    int calls() {
        return calls;
    }

    private int check(String call, int got, int want) {
        calls++;
        if (calls > 512) {
            throw new IllegalStateException("a test calls one object more than 512 times");
        }
        if (got != want) {
            call = "text " + model.text() + ", pattern " + model.pattern() + " after" + run + ": " + call;
        }
        due.is(call, got, want);
        return got;
    }

    private int change(String call, int got, int want) {
        check(call, got, want);
        run.append(' ').append(call);
        return got;
    }

    int write(int letter, int n) {
        return change("write(" + letter + ", " + n + ")", bench.write(letter, n), model.write(letter, n));
    }

    int again(int back, int n) {
        return change("again(" + back + ", " + n + ")", bench.again(back, n), model.again(back, n));
    }

    int change(int i, int letter) {
        return change("change(" + i + ", " + letter + ")", bench.change(i, letter), model.change(i, letter));
    }

    int cut(int n) {
        return change("cut(" + n + ")", bench.cut(n), model.cut(n));
    }

    int extend(int letter) {
        return change("extend(" + letter + ")", bench.extend(letter), model.extend(letter));
    }

    boolean copy(int i, int n) {
        return change("copy(" + i + ", " + n + ")", bench.copy(i, n) ? 1 : 0, model.copy(i, n) ? 1 : 0) == 1;
    }

    int count(int engine) {
        return check("count(" + engine + ")", bench.count(engine), model.count(engine));
    }

    int where(int engine, int k) {
        return check("where(" + engine + ", " + k + ")", bench.where(engine, k), model.where(engine, k));
    }

    int distinct(int engine) {
        return check("distinct(" + engine + ")", bench.distinct(engine), model.distinct(engine));
    }

    int longest(int engine) {
        return check("longest(" + engine + ")", bench.longest(engine), model.longest(engine));
    }

    int tail(int engine, int k) {
        return check("tail(" + engine + ", " + k + ")", bench.tail(engine, k), model.tail(engine, k));
    }

    boolean agree(int engine, int other) {
        return check("agree(" + engine + ", " + other + ")",
                bench.agree(engine, other) ? 1 : 0, model.agree(engine, other) ? 1 : 0) == 1;
    }

    int piece(int k) {
        return check("piece(" + k + ")", bench.piece(k), model.piece(k));
    }

    int common(int i, int j) {
        return check("common(" + i + ", " + j + ")", bench.common(i, j), model.common(i, j));
    }

    int repeats(int t) {
        return check("repeats(" + t + ")", bench.repeats(t), model.repeats(t));
    }

    int unique(int i) {
        return check("unique(" + i + ")", bench.unique(i), model.unique(i));
    }

    /** Brings a new object to this text and this pattern. */
    void begin(String text, String pattern) {
        for (char letter : text.toCharArray()) {
            write(letter - '0', 1);
        }
        for (char letter : pattern.toCharArray()) {
            extend(letter - '0');
        }
    }

    /** A call by its name, so that a test can be a list of them; true counts 1 and false 0. */
    int send(String name, int... args) {
        int a = args[0];
        int b = args.length > 1 ? args[1] : 0;
        return switch (name) {
            case "write" -> write(a, b);
            case "again" -> again(a, b);
            case "change" -> change(a, b);
            case "cut" -> cut(a);
            case "extend" -> extend(a);
            case "copy" -> copy(a, b) ? 1 : 0;
            case "count" -> count(a);
            case "where" -> where(a, b);
            case "distinct" -> distinct(a);
            case "longest" -> longest(a);
            case "tail" -> tail(a, b);
            case "agree" -> agree(a, b) ? 1 : 0;
            case "piece" -> piece(a);
            case "common" -> common(a, b);
            case "repeats" -> repeats(a);
            case "unique" -> unique(a);
            default -> throw new IllegalArgumentException(name);
        };
    }

    /** Asks every question, by every engine, at the first number, the last one and the next. */
    void askAll() {
        int last = model.text().length() - 1;
        for (int engine = 0; engine <= 4; engine++) {
            int places = count(engine);
            where(engine, 0);
            where(engine, places - 1);
            where(engine, places);
        }
        for (int engine = 0; engine <= 3; engine++) {
            distinct(engine);
            longest(engine);
            tail(engine, 0);
            tail(engine, last);
            tail(engine, last + 1);
            agree(engine, (engine + 1) % 4);
        }
        int pieces = repeats(1);
        piece(0);
        piece(pieces - 1);
        piece(pieces);
        repeats(2);
        common(0, last);
        common(last, 0);
        common(last, last + 1);
        unique(0);
        unique(last);
        unique(last + 1);
    }

    /** Reads the text, by changing each letter to itself. */
    void readText() {
        String text = model.text();
        cut(0);
        for (int i = 0; i < text.length(); i++) {
            change(i, text.charAt(i) - '0');
        }
        change(text.length(), 0);
    }

    /**
     * Reads the pattern: in a text that is the pattern alone it begins at place 0, so what stands
     * in the object is a beginning of it, and has its length if it is full after as many letters.
     */
    void readPatternAndSpoilAll() {
        String pattern = model.pattern();
        cut(40);
        for (char letter : pattern.toCharArray()) {
            write(letter - '0', 1);
        }
        count(0);
        where(0, 0);
        for (int length = pattern.length(); length <= 10; length++) {
            extend(0);
        }
    }
}
