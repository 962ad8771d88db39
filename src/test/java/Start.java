import java.util.Arrays;

/** A text and a pattern from which calls are tried, each on an object of its own. */
final class Start {
    private final Due due;
    private final String text;
    private final String pattern;

    Start(Due due, String text, String pattern) {
        this.due = due;
        this.text = text;
        this.pattern = pattern;
    }

    /** That a call answers this and leaves the text and the pattern as they were. */
    void keeps(int want, String name, int... args) {
        gives(want, text, pattern, name, args);
    }

    /** That a call answers this and leaves this text and this pattern: later calls show it. */
    void gives(int want, String textAfter, String patternAfter, String name, int... args) {
        Pair pair = new Pair(due);
        pair.begin(text, pattern);
        String call = "text " + text + ", pattern " + pattern + ": " + name + Arrays.toString(args);
        due.is(call, pair.send(name, args), want);
        due.is(call + " makes the text " + textAfter, pair.model.text().equals(textAfter), true);
        due.is(call + " makes the pattern " + patternAfter,
                pair.model.pattern().equals(patternAfter), true);
        pair.askAll();
        pair.readText();
        pair.readPatternAndSpoilAll();
    }
}
