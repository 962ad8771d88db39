/** Keeps count of the answers that are not as due; a test ends with exit code 1 if there was one. */
final class Due {
    private final String test;
    private String sentence = "";
    private long asked = 0;
    private long wrong = 0;

    Due(String test) {
        this.test = test;
    }

    /** The sentence of the document that the next answers are due by. */
    void by(String words) {
        sentence = words + ": ";
        System.out.println("  " + words);
    }

    void is(String call, long got, long want) {
        asked++;
        if (got != want) {
            wrong++;
            // A broken class answers wrongly many times: the first ones are enough to read.
            if (wrong <= 50) {
                System.out.println(sentence + call + " answered " + got + ", due is " + want);
            }
        }
    }

    void is(String call, boolean got, boolean want) {
        is(call, got ? 1 : 0, want ? 1 : 0);
    }

    void end() {
        System.out.println(test + ": " + asked + " answers, " + wrong + " not as due");
        if (wrong != 0 || asked == 0) {
            System.exit(1);
        }
    }
}
