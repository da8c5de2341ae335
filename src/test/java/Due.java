/** Counts the answers that are not the ones due, and ends the test by that count. */
final class Due {
    static final int NULL = 1000;
    static final int BAD = -2000;
    static final int FULL = -2001;
    static final int NONE = -2002;

    private int checks;
    private int wrong;

    void is(String call, long got, long want) {
        checks++;
        if (got != want) {
            wrong++;
            System.out.println(call + " answered " + got + ", due is " + want);
        }
    }

    /** Feeds tokens to a part, each of which has to be taken. */
    void feed(NullQueries q, int part, int... tokens) {
        for (int i = 0; i < tokens.length; i++) {
            is("feed(" + part + ", " + tokens[i] + ")", q.feed(part, tokens[i]), i + 1);
        }
    }

    /** Runs the query; the answer has to have these rows, three values each. */
    void rows(String what, NullQueries q, int... want) {
        is(what + ": run()", q.run(), want.length / 3);
        is(what + ": size()", q.size(), want.length / 3);
        for (int i = 0; i < want.length; i++) {
            is(what + ": answer(" + i / 3 + ", " + i % 3 + ")", q.answer(i / 3, i % 3), want[i]);
        }
        is(what + ": answer after the last row", q.answer(want.length / 3, 0), NONE);
    }

    void end() {
        System.out.println(wrong == 0 ? checks + " answers are as due" : wrong + " of " + checks + " answers are not as due");
        if (wrong != 0) {
            System.exit(1);
        }
    }
}
