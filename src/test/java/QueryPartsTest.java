/** Sentence by sentence: what the terms say of sources, promise 5, and promises 7 to 11. */
public final class QueryPartsTest {
    private static final Due due = new Due();
    private static final int N = Due.NULL;

    public static void main(String[] args) {
        oneToThreeSources();
        whatThePartsAre();
        fromNoTable();
        fromAFourth();
        fromTestsInOrder();
        fromAnswersItsNumber();
        leftOfSources();
        eraseAnswersHowManyTokens();
        eraseOfNoPart();
        summaryOfNoOutputOrKind();
        summaryAnswersTheOneBefore();
        distinctAnswersWhatItWas();
        clearAsInTheBeginning();
        clearKeepsTablesAndAnswer();
        clearOfWhatIsClear();
        stateOfParts();
        stateOfNoPart();
        due.end();
    }

    private static void oneToThreeSources() {
        due.says("Terms", "A QUERY has one to three SOURCES, numbered 0, 1, 2, each of which is a table");
        for (int table = 0; table < 3; table++) {
            NullQueries q = new NullQueries();
            Sample.fill(q, table);
            due.is("run without source", q.run(), Due.BAD);
            int rows = 1;
            for (int source = 0; source < 3; source++) {
                due.is("from", q.from(table, false), source);
                rows *= 6;
                due.is("run with " + (source + 1) + " times table " + table, q.run(), rows);
            }
            due.is("a fourth source", q.from(table, false), Due.FULL);
        }
        NullQueries q = new NullQueries();
        for (int table = 0; table < 3; table++) {
            q.row(table, table + 1, 0, 0);
            q.from(2 - table, false);
            due.feed(q, 4 + table, 10 * table);
        }
        // Source 0 is table 2, which had no row yet when it was taken.
        due.rows("each source its own table", q, 3, 2, 1);
    }

    /** The answer where two rows are joined with each other and a third one, and one part has these tokens. */
    private static void part(int part, int[] tokens, int... want) {
        NullQueries q = new NullQueries();
        q.row(0, 3, 0, 0);
        q.row(0, 2, 0, 0);
        q.row(1, 5, 0, 0);
        for (int source = 0; source < 3; source++) {
            q.from(source == 2 ? 1 : 0, true);
            due.feed(q, 4 + source, 10 * source);
        }
        q.erase(part);
        due.feed(q, part, tokens);
        due.rows("part " + part, q, want);
    }

    private static void whatThePartsAre() {
        due.says("Terms", "Part 0 is the WHERE condition; part 1 and 2 are the ON conditions of sources 1 and 2; part 3 is the HAVING"
                + " condition; parts 4, 5 and 6 are the OUTPUTS 0, 1 and 2; parts 7 and 8 are the KEYS; part 9 is the ORDER.");
        part(0, new int[] {80, 0, 10}, 2, 3, 5);
        part(1, new int[] {80, 10, 0}, 3, 2, 5, 2, N, 5);
        part(2, new int[] {80, 10, 0}, 3, 3, N, 3, 2, 5, 2, 3, N, 2, 2, N);
        part(3, new int[] {81, 10, 53}, 3, 3, 5);
        part(4, new int[] {54}, 4, 3, 5, 4, 2, 5, 4, 3, 5, 4, 2, 5);
        part(5, new int[] {54}, 3, 4, 5, 3, 4, 5, 2, 4, 5, 2, 4, 5);
        part(6, new int[] {54}, 3, 3, 4, 3, 2, 4, 2, 3, 4, 2, 2, 4);
        part(7, new int[] {0}, 3, 3, 5, 2, 3, 5);
        part(8, new int[] {10}, 3, 3, 5, 3, 2, 5);
        part(9, new int[] {10}, 3, 2, 5, 2, 2, 5, 3, 3, 5, 2, 3, 5);
    }

    private static NullQueries withSources(int count) {
        NullQueries q = Sample.filled();
        for (int i = 2; i < count; i++) {
            q.from(1, true);
        }
        return q;
    }

    private static void fromNoTable() {
        due.says("from", "Adds a source. table is not 0 .. 2: BAD");
        for (int table : Due.outside(3)) {
            for (boolean left : new boolean[] {false, true}) {
                due.changesNothing("from(" + table + ")", Sample::filled, q -> q.from(table, left), Due.BAD);
                due.changesNothing("from(" + table + ")", NullQueries::new, q -> q.from(table, left), Due.BAD);
            }
        }
    }

    private static void fromAFourth() {
        due.says("from", "there are three: FULL.");
        for (int table = 0; table < 3; table++) {
            int fourth = table;
            for (boolean left : new boolean[] {false, true}) {
                due.changesNothing("a fourth", () -> withSources(3), q -> q.from(fourth, left), Due.FULL);
            }
        }
    }

    private static void fromTestsInOrder() {
        due.says("Terms", "In every method the tests are made in the order named.");
        for (int table : Due.outside(3)) {
            due.changesNothing("a fourth of no table", () -> withSources(3), q -> q.from(table, true), Due.BAD);
        }
    }

    private static void fromAnswersItsNumber() {
        due.says("from", "Else answers its number.");
        NullQueries q = new NullQueries();
        due.is("from", q.from(2, true), 0);
        due.is("from", q.from(2, false), 1);
        due.is("from no table", q.from(3, false), Due.BAD);
        due.is("from", q.from(0, true), 2);
        due.is("a fourth", q.from(0, true), Due.FULL);
        q.clear();
        due.is("from after clear", q.from(1, false), 0);
    }

    private static void leftOfSources() {
        due.says("from", "left says whether it is joined LEFT (of source 0 it says nothing).");
        for (boolean left : new boolean[] {false, true}) {
            NullQueries q = new NullQueries();
            q.from(0, left);
            due.feed(q, 4, 51);
            due.rows("an empty source 0", q);
            q.row(0, 1, 2, 3);
            due.feed(q, 0, 81, 0, 52);
            due.rows("WHERE drops source 0", q);
            q.erase(0);
            due.feed(q, 6, 2);
            due.rows("a row of source 0", q, 1, N, 3);
            q.from(1, left);
            due.is("source 1 of an empty table", q.run(), left ? 1 : 0);
            q.from(2, !left);
            due.is("an INNER join among them", q.run(), 0);
            q.row(left ? 2 : 1, 1, 1, 1);
            due.is("a row for the INNER join", q.run(), 1);
        }
    }

    private static void eraseAnswersHowManyTokens() {
        due.says("erase", "Makes a part empty; answers how many tokens it had.");
        for (int part = 0; part < 10; part++) {
            NullQueries q = new NullQueries();
            int opening = part <= 3 ? 84 : 71;
            for (int count = 0; count <= 20; count++) {
                for (int i = 0; i < count; i++) {
                    q.feed(part, opening);
                }
                due.is("erase of " + count + " tokens", q.erase(part), count);
                due.is("state after erase", q.state(part), 0);
            }
            due.is("erase of an empty part", q.erase(part), 0);
            due.feed(q, part, part <= 3 ? new int[] {82, 50} : new int[] {50});
            due.is("erase of a complete part", q.erase(part), part <= 3 ? 2 : 1);
            due.is("feed after erase", q.feed(part, opening), 1);
        }
        NullQueries q = Sample.filled();
        due.is("erase of one part", q.erase(5), 3);
        due.is("the part before it stays", q.erase(4), 1);
        due.is("the part after it stays", q.erase(6), 3);
        due.is("size stays", q.size(), 3);
    }

    private static void eraseOfNoPart() {
        due.says("erase", "part is not 0 .. 9: BAD.");
        for (int part : Due.outside(10)) {
            due.changesNothing("erase(" + part + ")", Sample::filled, q -> q.erase(part), Due.BAD);
        }
    }

    private static void summaryOfNoOutputOrKind() {
        due.says("summary", "The summary of an output. output is not 0 .. 2, or kind is not 0 .. 5: BAD.");
        for (int output : Due.outside(3)) {
            for (int kind = 0; kind <= 5; kind++) {
                int good = kind;
                due.changesNothing("summary(" + output + ", " + kind + ")", Sample::filled, q -> q.summary(output, good), Due.BAD);
            }
        }
        for (int kind : Due.outside(6)) {
            for (int output = 0; output < 3; output++) {
                int good = output;
                due.changesNothing("summary(" + output + ", " + kind + ")", Sample::filled, q -> q.summary(good, kind), Due.BAD);
            }
        }
        due.changesNothing("summary(3, 6)", Sample::filled, q -> q.summary(3, 6), Due.BAD);
    }

    private static void summaryAnswersTheOneBefore() {
        due.says("summary", "Else answers the one before.");
        NullQueries q = new NullQueries();
        for (int output = 0; output < 3; output++) {
            for (int kind = 0; kind <= 5; kind++) {
                due.is("summary", q.summary(output, kind), kind == 0 ? 0 : kind - 1);
                due.is("the same again", q.summary(output, kind), kind);
                due.is("a kind that is refused", q.summary(output, 6), Due.BAD);
            }
        }
        for (int output = 0; output < 3; output++) {
            due.is("the greatest kind", q.summary(output, 0), 5);
            due.is("none", q.summary(output, 0), 0);
        }
    }

    private static void distinctAnswersWhatItWas() {
        due.says("distinct", "Makes the query DISTINCT or not; answers 1 if it was, else 0.");
        NullQueries q = new NullQueries();
        Sample.fill(q, 0);
        q.from(0, false);
        due.feed(q, 4, 1);
        due.is("run", q.run(), 6);
        due.is("distinct", q.distinct(true), 0);
        due.is("size before the next run", q.size(), 6);
        due.is("run", q.run(), 2);
        due.is("distinct again", q.distinct(true), 1);
        due.is("run", q.run(), 2);
        due.is("not distinct", q.distinct(false), 1);
        due.is("run", q.run(), 6);
        due.is("not distinct again", q.distinct(false), 0);
        due.is("run", q.run(), 6);
        due.is("distinct", q.distinct(true), 0);
    }

    /** Everything of a query is as much as it can be. */
    private static NullQueries most() {
        NullQueries q = withSources(3);
        for (int part = 0; part < 10; part++) {
            q.erase(part);
            for (int i = 0; i < 20; i++) {
                q.feed(part, part <= 3 ? 84 : 71);
            }
        }
        for (int output = 0; output < 3; output++) {
            q.summary(output, 5);
        }
        q.distinct(true);
        return q;
    }

    private static void clearAsInTheBeginning() {
        due.says("clear", "Everything of the query as in the beginning");
        NullQueries q = most();
        q.clear();
        for (int part = 0; part < 10; part++) {
            due.is("state after clear", q.state(part), 0);
            due.is("erase after clear", q.erase(part), 0);
        }
        for (int output = 0; output < 3; output++) {
            due.is("summary after clear", q.summary(output, 0), 0);
        }
        due.is("distinct after clear", q.distinct(false), 0);
        due.is("run after clear", q.run(), Due.BAD);
        due.is("from after clear", q.from(1, false), 0);
        due.feed(q, 4, 1);
        due.rows("after clear", q, 0, N, N, 1, N, N, 0, N, N, 1, N, N, 0, N, N, 1, N, N);
        due.is("from after clear", q.from(2, false), 1);
        due.is("INNER after clear", q.run(), 0);
        due.is("from after clear", q.from(0, false), 2);
        due.is("a fourth after clear", q.from(0, false), Due.FULL);
    }

    private static void clearKeepsTablesAndAnswer() {
        due.says("clear", "tables stay, and the answer that is kept.");
        NullQueries q = most();
        q.clear();
        due.is("size after clear", q.size(), 3);
        int[] answers = {1, N, 1, 2, 9, 1, 2, 5, 1};
        for (int i = 0; i < 9; i++) {
            due.is("answer after clear", q.answer(i / 3, i % 3), answers[i]);
        }
        due.is("digest after clear", q.digest(), 152);
        due.is("value after clear", q.value(0, 0, 1), N);
        due.is("value after clear", q.value(1, 5, 0), 5);
        due.is("an empty table after clear", q.value(2, 0, 0), Due.BAD);
        due.is("a full table after clear", q.row(1, 0, 0, 0), Due.FULL);
        due.is("a fourth row after clear", q.row(0, 0, 0, 0), 3);
        due.is("a run that is refused", q.run(), Due.BAD);
        due.is("size after that", q.size(), 3);
    }

    private static void clearOfWhatIsClear() {
        due.says("clear", "Everything of the query as in the beginning; tables stay, and the answer that is kept.");
        due.changesNothing("clear of a new object", NullQueries::new, q -> {
            q.clear();
            return 0;
        }, 0);
        due.changesNothing("clear again", () -> {
            NullQueries q = most();
            q.clear();
            return q;
        }, q -> {
            q.clear();
            return 0;
        }, 0);
    }

    private static void stateOfParts() {
        due.says("state", "1 if a part is complete, 0 if it is empty, -1 if neither");
        NullQueries q = new NullQueries();
        for (int part = 0; part < 10; part++) {
            due.is("state", q.state(part), 0);
            due.is("feed", q.feed(part, part <= 3 ? 82 : 74), 1);
            due.is("state", q.state(part), -1);
            due.is("feed", q.feed(part, 1), 2);
            due.is("state", q.state(part), part <= 3 ? 1 : -1);
            due.is("feed", q.feed(part, 1), part <= 3 ? Due.FULL : 3);
            due.is("state", q.state(part), 1);
            for (int later = part + 1; later < 10; later++) {
                due.is("state of another part", q.state(later), 0);
            }
        }
        NullQueries twenty = most();
        for (int part = 0; part < 10; part++) {
            due.is("state of twenty tokens", twenty.state(part), -1);
            twenty.erase(part);
            due.is("state after erase", twenty.state(part), 0);
        }
    }

    private static void stateOfNoPart() {
        due.says("state", "BAD if part is not 0 .. 9.");
        for (int part : Due.outside(10)) {
            due.changesNothing("state(" + part + ")", Sample::filled, q -> q.state(part), Due.BAD);
            due.changesNothing("state(" + part + ")", QueryPartsTest::most, q -> q.state(part), Due.BAD);
        }
    }
}
