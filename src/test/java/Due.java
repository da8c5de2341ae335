import java.util.function.Supplier;
import java.util.function.ToIntFunction;

/** Counts the answers that are not the ones due, and ends the test by that count. */
final class Due {
    static final int NULL = 1000;
    static final int BAD = -2000;
    static final int FULL = -2001;
    static final int NONE = -2002;

    private int checks;
    private int wrong;
    private int sentences;
    private int checksBefore;
    private String sentence = "";

    /** The sentence of the document that the answers from here on are about, and the section it is in. */
    void says(String section, String quoted) {
        endSentence();
        sentence = section + ", \"" + quoted + "\"";
        sentences++;
        checksBefore = checks;
    }

    private void endSentence() {
        if (sentences > 0 && checks == checksBefore) {
            wrong++;
            System.out.println(sentence + ": no answer is looked at");
        }
    }

    void is(String call, long got, long want) {
        checks++;
        if (got != want) {
            wrong++;
            System.out.println((sentences > 0 ? sentence + ": " : "") + call + " answered " + got + ", due is " + want);
        }
    }

    /** Feeds tokens to a part, each of which has to be taken. */
    void feed(NullQueries q, int part, int... tokens) {
        for (int i = 0; i < tokens.length; i++) {
            is("feed(" + part + ", " + tokens[i] + ")", q.feed(part, tokens[i]), i + 1);
        }
    }

    /** Puts these tokens in the place of what a part has. */
    void refeed(NullQueries q, int part, int... tokens) {
        q.erase(part);
        feed(q, part, tokens);
    }

    /** Runs the query; the answer has to have these rows, three values each. */
    void rows(String what, NullQueries q, int... want) {
        is(what + ": run()", q.run(), want.length / 3);
        is(what + ": size()", q.size(), want.length / 3);
        for (int i = 0; i < want.length; i++) {
            is(what + ": answer(" + i / 3 + ", " + i % 3 + ")", q.answer(i / 3, i % 3), want[i]);
        }
        is(what + ": answer after the last row", q.answer(want.length / 3, 0), NONE);
    }

    /** The answer of a call after which the object has to look like another one that is made alike. */
    void changesNothing(String name, Supplier<NullQueries> made, ToIntFunction<NullQueries> call, int want) {
        NullQueries q = made.get();
        is(name, call.applyAsInt(q), want);
        boolean alike = Sample.lookAt(q).equals(Sample.lookAt(made.get()));
        is(name + " changes nothing", alike ? 1 : 0, 1);
    }

    /** Numbers that are not 0 .. count - 1: the next ones and the farthest ones. */
    static int[] outside(int count) {
        return new int[] {-1, count, Integer.MIN_VALUE, Integer.MAX_VALUE};
    }

    void end() {
        endSentence();
        String of = sentences > 0 ? " to " + sentences + " sentences" : "";
        System.out.println(wrong == 0 ? checks + " answers" + of + " are as due" : wrong + " of " + checks + " answers are not as due");
        if (wrong != 0) {
            System.exit(1);
        }
    }
}
