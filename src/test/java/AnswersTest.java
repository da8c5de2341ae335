/** Sentence by sentence: promises 12 to 15, run, size, answer and digest. */
public final class AnswersTest {
    private static final Due due = new Due();
    private static final int N = Due.NULL;

    public static void main(String[] args) {
        runWithoutSource();
        runWithAPartThatIsNeither();
        runNamingNoSource();
        runNamingSourceThree();
        runRefusedForEveryReason();
        runKeepsItsAnswer();
        runRefusedKeepsTheAnswer();
        runAgain();
        runAnswersTheNumberOfRows();
        sizeOfTheAnswer();
        sizeIfNothingHasRun();
        answerOfTheAnswer();
        answerOfNoRow();
        answerOfNoOutput();
        digestOfRows();
        digestOfNull();
        digestOfNoRows();
        digestWraps();
        due.end();
    }

    private static NullQueries rows() {
        NullQueries q = new NullQueries();
        q.row(0, 1, 5, N);
        q.row(0, 2, N, 3);
        q.row(0, 3, 5, 4);
        q.row(1, 5, 1, 1);
        q.row(2, 6, 1, 1);
        return q;
    }

    private static NullQueries hasRun() {
        NullQueries q = rows();
        q.from(0, false);
        Sample.feed(q, 4, 0);
        Sample.feed(q, 5, 1);
        Sample.feed(q, 6, 2);
        q.run();
        return q;
    }

    private static void runWithoutSource() {
        due.says("run", "There is no source");
        due.changesNothing("run of a new object", NullQueries::new, q -> q.run(), Due.BAD);
        due.changesNothing("run with rows and no source", AnswersTest::rows, q -> q.run(), Due.BAD);
        due.changesNothing("run after clear", () -> {
            NullQueries q = hasRun();
            q.clear();
            return q;
        }, q -> q.run(), Due.BAD);
        NullQueries q = rows();
        q.from(1, true);
        due.is("run with a source", q.run(), 1);
    }

    private static void runWithAPartThatIsNeither() {
        due.says("run", "a part is neither empty nor complete");
        for (int part = 0; part < 10; part++) {
            int open = part;
            due.changesNothing("run with part " + part + " begun", () -> {
                NullQueries q = hasRun();
                q.erase(open);
                q.feed(open, open <= 3 ? 82 : 71);
                return q;
            }, q -> q.run(), Due.BAD);
            due.changesNothing("run with part " + part + " lacking one token", () -> {
                NullQueries q = hasRun();
                q.erase(open);
                Sample.feed(q, open, open <= 3 ? new int[] {86, 82, 0, 80, 51} : new int[] {76, 82, 0, 53});
                return q;
            }, q -> q.run(), Due.BAD);
            due.changesNothing("run with part " + part + " of twenty tokens", () -> {
                NullQueries q = hasRun();
                q.erase(open);
                for (int i = 0; i < 20; i++) {
                    q.feed(open, open <= 3 ? 84 : 71);
                }
                return q;
            }, q -> q.run(), Due.BAD);
            NullQueries q = hasRun();
            q.erase(part);
            due.is("run with part " + part + " empty", q.run(), 3);
            due.feed(q, part, part <= 3 ? new int[] {83, 0, 0} : new int[] {0});
            due.is("run with part " + part + " complete", q.run(), part == 3 ? 1 : 3);
        }
    }

    /** A query that names a source in a part, within a term that is complete. */
    private static NullQueries naming(int part, int source, int sources, boolean within) {
        NullQueries q = rows();
        for (int i = 0; i < sources; i++) {
            q.from(i, false);
        }
        int named = 10 * source + part % 3;
        int[] condition = within ? new int[] {87, 82, 70, 92, 82, named} : new int[] {87, 82, 70, 82, named};
        int[] expression = within ? new int[] {76, 92, 82, named, 51, 51} : new int[] {74, 51, named};
        due.feed(q, part, part <= 3 ? condition : expression);
        return q;
    }

    private static void runNamingNoSource() {
        due.says("run", "or a source is named that is not there");
        for (int part = 0; part < 10; part++) {
            for (int source = 0; source < 3; source++) {
                if (part == 1 && source == 2) {
                    continue;
                }
                for (int sources = 1; sources <= 3; sources++) {
                    for (boolean within : new boolean[] {false, true}) {
                        NullQueries q = naming(part, source, sources, within);
                        boolean there = source < sources;
                        int all = part == 3 || part == 7 || part == 8 ? 1 : 3;
                        String what = "run with source " + source + " of " + sources + " named in part " + part;
                        due.is(what, q.run(), there ? all : Due.BAD);
                        due.is("size after that", q.size(), there ? all : 0);
                    }
                }
            }
        }
        for (int token : new int[] {10, 12, 20, 22}) {
            due.changesNothing("run with " + token + " and one source", () -> {
                NullQueries q = hasRun();
                Sample.feed(q, 9, 74, 51, token);
                return q;
            }, q -> q.run(), Due.BAD);
        }
        NullQueries q = hasRun();
        due.refeed(q, 4, 10);
        due.is("source 1 is not there", q.run(), Due.BAD);
        q.from(1, false);
        due.is("source 1 is there", q.run(), 3);
        due.refeed(q, 4, 20);
        due.is("source 2 is not there", q.run(), Due.BAD);
        q.from(1, false);
        due.is("source 2 is there", q.run(), 3);
    }

    private static void runNamingSourceThree() {
        due.says("run", "(source 3 apart): BAD.");
        for (int part = 0; part < 10; part++) {
            for (int sources = 1; sources <= 3; sources++) {
                NullQueries q = naming(part, 3, sources, true);
                int all = part == 3 || part == 7 || part == 8 ? 1 : 3;
                due.is("run with source 3 in part " + part, q.run(), all);
            }
        }
        due.changesNothing("run with source 3 and no source", () -> naming(0, 3, 0, true), q -> q.run(), Due.BAD);
    }

    private static void runRefusedForEveryReason() {
        due.says("Terms", "A refused call (an answer below 0) changes nothing.");
        due.changesNothing("no source, a part begun, a source named", () -> {
            NullQueries q = hasRun();
            q.clear();
            Sample.feed(q, 0, 80, 20);
            return q;
        }, q -> q.run(), Due.BAD);
    }

    private static void runKeepsItsAnswer() {
        due.says("run", "Runs the query and keeps its answer");
        NullQueries q = hasRun();
        int[] want = {1, 5, N, 2, N, 3, 3, 5, 4};
        q.drop(0, 0);
        q.row(0, 9, 9, 9);
        q.from(1, false);
        q.erase(4);
        q.summary(0, 1);
        q.distinct(true);
        due.is("size", q.size(), 3);
        for (int i = 0; i < 9; i++) {
            due.is("answer(" + i / 3 + ", " + i % 3 + ")", q.answer(i / 3, i % 3), want[i]);
        }
        due.is("digest", q.digest(), 16 + 46 + 138);
        due.rows("run again", q, 3, N, 3);
        due.changesNothing("run once more", () -> {
            NullQueries again = hasRun();
            again.run();
            return again;
        }, again -> again.run(), 3);
    }

    private static void runRefusedKeepsTheAnswer() {
        due.says("run", "until run is not refused again.");
        NullQueries q = hasRun();
        q.feed(0, 84);
        for (int i = 0; i < 3; i++) {
            due.is("run refused", q.run(), Due.BAD);
            due.is("size", q.size(), 3);
            due.is("answer", q.answer(2, 0), 3);
            due.is("digest", q.digest(), 16 + 46 + 138);
        }
        due.feed(q, 8, 1);
        due.refeed(q, 0, 80, 50, 50);
        due.rows("a run with no rows is not refused", q);
        due.is("digest", q.digest(), 0);
        q.clear();
        due.is("run refused", q.run(), Due.BAD);
        due.is("size", q.size(), 0);
        due.is("answer", q.answer(0, 0), Due.NONE);
    }

    private static void runAgain() {
        due.says("run", "Runs the query and keeps its answer, until run is not refused again.");
        NullQueries q = new NullQueries();
        Sample.fill(q, 0);
        for (int i = 0; i < 3; i++) {
            q.from(0, false);
        }
        due.feed(q, 4, 0);
        due.is("a great answer", q.run(), 216);
        due.feed(q, 0, 86, 81, 0, 55, 86, 81, 10, 55, 81, 20, 55);
        due.rows("a small one", q, 5, N, N);
        due.is("nothing of the great one is left", q.answer(215, 0), Due.NONE);
        due.is("digest", q.digest(), 5);
        q.erase(0);
        due.is("a great one again", q.run(), 216);
        due.is("its last row", q.answer(215, 0), 5);
    }

    private static void runAnswersTheNumberOfRows() {
        due.says("run", "Else answers the number of rows of the answer.");
        NullQueries q = new NullQueries();
        q.from(0, false);
        due.is("an empty table", q.run(), 0);
        for (int i = 1; i <= 6; i++) {
            q.row(0, i, i % 2, N);
            due.is(i + " rows", q.run(), i);
        }
        due.feed(q, 7, 1);
        due.is("groups", q.run(), 2);
        due.feed(q, 3, 81, 1, 50);
        due.is("groups HAVING", q.run(), 1);
        q.erase(3);
        q.distinct(true);
        due.is("groups DISTINCT", q.run(), 1);
        q.clear();
        for (int i = 0; i < 3; i++) {
            q.from(0, false);
        }
        due.is("all combinations", q.run(), 216);
    }

    private static void sizeOfTheAnswer() {
        due.says("size", "The number of rows of the answer that is kept");
        NullQueries q = hasRun();
        due.is("size", q.size(), 3);
        q.row(0, 1, 1, 1);
        due.is("size before the next run", q.size(), 3);
        due.is("run", q.run(), 4);
        due.is("size", q.size(), 4);
        q.clear();
        due.is("size after clear", q.size(), 4);
        q.from(0, false);
        due.feed(q, 0, 80, 50, 50);
        due.is("run", q.run(), 0);
        due.is("size of an answer without rows", q.size(), 0);
    }

    private static void sizeIfNothingHasRun() {
        due.says("size", "0 if nothing has run.");
        due.is("size of a new object", new NullQueries().size(), 0);
        NullQueries q = rows();
        due.is("size with rows", q.size(), 0);
        due.is("run refused", q.run(), Due.BAD);
        due.is("size after that", q.size(), 0);
        q.from(0, false);
        due.is("size before the first run", q.size(), 0);
    }

    private static void answerOfTheAnswer() {
        due.says("answer", "The value of an output in a row of the answer that is kept.");
        NullQueries q = hasRun();
        int[] want = {1, 5, N, 2, N, 3, 3, 5, 4};
        for (int i = 0; i < 9; i++) {
            due.is("answer(" + i / 3 + ", " + i % 3 + ")", q.answer(i / 3, i % 3), want[i]);
        }
        q.erase(5);
        due.is("an output erased since", q.answer(0, 1), 5);
        due.is("run", q.run(), 3);
        due.is("an empty output", q.answer(0, 1), N);
    }

    private static void answerOfNoRow() {
        due.says("answer", "There is no such row");
        for (int i : Due.outside(3)) {
            for (int output = 0; output < 3; output++) {
                int of = output;
                due.changesNothing("answer(" + i + ", " + of + ")", AnswersTest::hasRun, q -> q.answer(i, of), Due.NONE);
            }
        }
        for (int i : new int[] {0, -1, 1, Integer.MIN_VALUE, Integer.MAX_VALUE}) {
            due.changesNothing("answer of a new object", NullQueries::new, q -> q.answer(i, 0), Due.NONE);
            due.changesNothing("answer before the first run", AnswersTest::rows, q -> q.answer(i, 2), Due.NONE);
        }
        // With three values a row, these would lie at places of the answer.
        NullQueries q = hasRun();
        due.is("answer", q.answer(1 << 30, 0), Due.NONE);
        due.is("answer", q.answer(-1, 3), Due.NONE);
        due.refeed(q, 0, 80, 50, 50);
        due.is("run", q.run(), 0);
        due.is("answer of an answer without rows", q.answer(0, 0), Due.NONE);
    }

    private static void answerOfNoOutput() {
        due.says("answer", "or output is not 0 .. 2: NONE.");
        for (int output : Due.outside(3)) {
            for (int i = 0; i < 3; i++) {
                int of = i;
                due.changesNothing("answer(" + of + ", " + output + ")", AnswersTest::hasRun, q -> q.answer(of, output), Due.NONE);
            }
            due.changesNothing("answer of a new object", NullQueries::new, q -> q.answer(0, output), Due.NONE);
        }
    }

    private static void digestOfRows() {
        due.says("digest", "The sum, over all rows of the answer that is kept, of (number of the row + 1) times"
                + " (1 * output 0 + 3 * output 1 + 7 * output 2)");
        NullQueries q = new NullQueries();
        for (int i = 0; i < 6; i++) {
            q.row(0, i + 1, i - 3, 2 * i - 5);
        }
        q.from(0, false);
        int[] alone = {91, 3 * 7, 7 * 35};
        for (int output = 0; output < 3; output++) {
            q.erase(4);
            q.erase(5);
            due.refeed(q, 4 + output, output);
            due.is("run", q.run(), 6);
            due.is("digest of output " + output, q.digest(), alone[output]);
        }
        due.feed(q, 4, 0);
        due.feed(q, 5, 1);
        due.is("digest before the run", q.digest(), alone[2]);
        due.is("run", q.run(), 6);
        due.is("digest of all", q.digest(), alone[0] + alone[1] + alone[2]);
        due.refeed(q, 4, 49);
        q.erase(5);
        q.erase(6);
        due.is("run", q.run(), 6);
        due.is("a digest below 0", q.digest(), -21);
    }

    private static void digestOfNull() {
        due.says("digest", "with 0 for NULL");
        due.is("digest with NULL in every output", hasRun().digest(), 16 + 46 + 138);
        NullQueries q = new NullQueries();
        q.row(0, N, N, N);
        q.row(0, N, N, N);
        q.from(0, false);
        due.feed(q, 4, 0);
        due.feed(q, 5, 1);
        due.is("run", q.run(), 2);
        due.is("digest of nothing but NULL", q.digest(), 0);
        q.row(0, N, 2, N);
        due.is("run", q.run(), 3);
        due.is("rows of NULL count as rows", q.digest(), 18);
    }

    private static void digestOfNoRows() {
        due.says("digest", "over all rows of the answer that is kept");
        due.is("digest of a new object", new NullQueries().digest(), 0);
        NullQueries q = hasRun();
        due.refeed(q, 0, 80, 50, 50);
        due.is("digest before the run", q.digest(), 16 + 46 + 138);
        due.is("run", q.run(), 0);
        due.is("digest of no rows", q.digest(), 0);
        NullQueries greatest = new NullQueries();
        Sample.fill(greatest, 0);
        for (int i = 0; i < 3; i++) {
            greatest.from(0, false);
        }
        due.feed(greatest, 6, 51);
        due.is("run", greatest.run(), 216);
        due.is("digest of 216 rows", greatest.digest(), 7 * 216 * 217 / 2);
    }

    private static void digestWraps() {
        due.says("digest", "(wrapping)");
        int great = 1 << 27;
        int[] timesGreat = {73, 0, 73, 73, 73, 73, 73, 73, 73, 73, 58, 58, 58, 58, 58, 58, 58, 58, 58};
        NullQueries q = new NullQueries();
        q.row(0, 8, 0, 0);
        q.from(0, false);
        due.feed(q, 4, timesGreat);
        due.is("run", q.run(), 1);
        due.is("one row", q.digest(), 8 * great);
        q.row(0, 4, 0, 0);
        due.is("run", q.run(), 2);
        due.is("two rows to 2 to the 31st", q.digest(), Integer.MIN_VALUE);
        q.row(0, 5, 0, 0);
        due.is("run", q.run(), 3);
        due.is("three rows", q.digest(), 31 * great);
        for (int output = 1; output < 3; output++) {
            q.erase(3 + output);
            due.feed(q, 4 + output, timesGreat);
            due.is("run", q.run(), 3);
            due.is("output " + output, q.digest(), (output == 1 ? 3 : 7) * 31 * great);
        }
        q.clear();
        q.drop(0, 2);
        q.drop(0, 1);
        q.drop(0, 0);
        q.row(0, -8, 0, 0);
        q.row(0, -4, 0, 0);
        q.from(0, false);
        due.feed(q, 4, timesGreat);
        due.is("run", q.run(), 2);
        due.is("two rows to the least int", q.digest(), Integer.MIN_VALUE);
        q.row(0, -1, 0, 0);
        due.is("run", q.run(), 3);
        due.is("below the least int", q.digest(), 13 * great);
    }
}
