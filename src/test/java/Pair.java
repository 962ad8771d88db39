/** A workbench and the model side by side: each call goes to both, and the answers must be equal. */
final class Pair {
    final SuffixWorkbench bench = new SuffixWorkbench();
    final Model model = new Model();
    private final Due due;
    private final StringBuilder run = new StringBuilder();
    private int calls = 0;

    Pair(Due due) {
        this.due = due;
    }

    private int check(String call, int got, int want) {
        calls++;
        if (calls > 512) {
            throw new IllegalStateException("a test calls one object more than 512 times");
        }
        if (got != want) {
            call = "text " + model.text() + " after" + run + ": " + call;
        }
        due.is(call, got, want);
        return got;
    }

    private int change(String call, int got, int want) {
        check(call, got, want);
        run.append(' ').append(call);
        return got;
    }

    int write(int letter, int n) {
        return change("write(" + letter + ", " + n + ")", bench.write(letter, n), model.write(letter, n));
    }

    int again(int back, int n) {
        return change("again(" + back + ", " + n + ")", bench.again(back, n), model.again(back, n));
    }

    int change(int i, int letter) {
        return change("change(" + i + ", " + letter + ")", bench.change(i, letter), model.change(i, letter));
    }

    int cut(int n) {
        return change("cut(" + n + ")", bench.cut(n), model.cut(n));
    }

    int extend(int letter) {
        return change("extend(" + letter + ")", bench.extend(letter), model.extend(letter));
    }

    boolean copy(int i, int n) {
        return change("copy(" + i + ", " + n + ")", bench.copy(i, n) ? 1 : 0, model.copy(i, n) ? 1 : 0) == 1;
    }

    int count(int engine) {
        return check("count(" + engine + ")", bench.count(engine), model.count(engine));
    }

    int where(int engine, int k) {
        return check("where(" + engine + ", " + k + ")", bench.where(engine, k), model.where(engine, k));
    }

    int distinct(int engine) {
        return check("distinct(" + engine + ")", bench.distinct(engine), model.distinct(engine));
    }

    int longest(int engine) {
        return check("longest(" + engine + ")", bench.longest(engine), model.longest(engine));
    }

    int tail(int engine, int k) {
        return check("tail(" + engine + ", " + k + ")", bench.tail(engine, k), model.tail(engine, k));
    }

    boolean agree(int engine, int other) {
        return check("agree(" + engine + ", " + other + ")",
                bench.agree(engine, other) ? 1 : 0, model.agree(engine, other) ? 1 : 0) == 1;
    }

    int piece(int k) {
        return check("piece(" + k + ")", bench.piece(k), model.piece(k));
    }

    int common(int i, int j) {
        return check("common(" + i + ", " + j + ")", bench.common(i, j), model.common(i, j));
    }

    int repeats(int t) {
        return check("repeats(" + t + ")", bench.repeats(t), model.repeats(t));
    }

    int unique(int i) {
        return check("unique(" + i + ")", bench.unique(i), model.unique(i));
    }
}
