/** Promises 12 to 15: run, size, answer and digest; joins, groups, DISTINCT and ORDER. */
public final class AnswersTest {
    private static final Due due = new Due();
    private static final int N = Due.NULL;

    public static void main(String[] args) {
        runRefuses();
        runNeedsEverySourceNamed();
        runRefusedKeepsTheAnswer();
        innerJoins();
        leftJoins();
        leftJoinsInARow();
        sourceZeroIsNeverLeft();
        conditionsOfMissingSources();
        whereAfterJoins();
        allCombinations();
        groupsByKeys();
        groupsWithoutMembers();
        summariesOfGroups();
        summariesOfEmptyOutputs();
        whatMakesGroups();
        havingOfFirstMembers();
        ordered();
        orderedGroups();
        distinctRows();
        distinctAfterOrder();
        answersAreKept();
        answerRefuses();
        digests();
        due.end();
    }

    private static NullQueries people() {
        NullQueries q = new NullQueries();
        q.row(0, 1, 5, N);
        q.row(0, 2, N, 3);
        q.row(0, 3, 5, 4);
        q.row(1, 5, 1, 1);
        q.row(1, 5, 2, 2);
        q.row(1, N, 3, 3);
        q.row(2, 1, 8, 0);
        q.row(2, 3, 9, 0);
        return q;
    }

    private static void runRefuses() {
        NullQueries q = people();
        due.is("run without source", q.run(), Due.BAD);
        q.from(0, false);
        due.is("run", q.run(), 3);
        for (int part = 0; part < 10; part++) {
            due.is("feed", q.feed(part, part <= 3 ? 82 : 71), 1);
            due.is("run with part " + part + " neither", q.run(), Due.BAD);
            due.is("feed", q.feed(part, 0), 2);
            int want = part > 3 ? Due.BAD : part == 0 || part == 3 ? 0 : 3;
            due.is("run with two tokens in part " + part, q.run(), want);
            q.erase(part);
            due.is("run again", q.run(), 3);
        }
    }

    private static void runNeedsEverySourceNamed() {
        for (int part = 0; part < 10; part++) {
            for (int source = 0; source < 3; source++) {
                if (part == 1 && source == 2) {
                    continue;
                }
                NullQueries q = people();
                if (part <= 3) {
                    due.feed(q, part, 87, 82, 50, 92, 82, 10 * source);
                } else {
                    due.feed(q, part, 74, 51, 10 * source);
                }
                for (int sources = 0; sources < 3; sources++) {
                    due.is("run of part " + part + " with source " + source + " of " + sources,
                            q.run() == Due.BAD ? 1 : 0, source >= sources ? 1 : 0);
                    q.from(sources, false);
                }
                due.is("run with all sources", q.run() == Due.BAD ? 1 : 0, 0);
            }
            NullQueries q = people();
            q.from(0, false);
            due.feed(q, part, part <= 3 ? new int[] {92, 81, 30, 53} : new int[] {76, 92, 81, 30, 53, 51, 52});
            due.is("run of part " + part + " with source 3", q.run() == Due.BAD ? 1 : 0, 0);
        }
    }

    private static void runRefusedKeepsTheAnswer() {
        NullQueries q = people();
        q.from(0, false);
        due.feed(q, 4, 0);
        due.is("run", q.run(), 3);
        due.is("feed", q.feed(5, 10), 1);
        due.is("run refused", q.run(), Due.BAD);
        due.is("size", q.size(), 3);
        due.is("answer", q.answer(2, 0), 3);
        due.is("digest", q.digest(), 1 + 4 + 9);
        q.erase(5);
        due.feed(q, 0, 81, 50, 51);
        due.rows("no row", q);
        due.is("digest", q.digest(), 0);
    }

    private static void innerJoins() {
        NullQueries q = people();
        q.from(0, false);
        q.from(1, false);
        due.feed(q, 1, 81, 1, 10);
        due.feed(q, 4, 0);
        due.feed(q, 5, 11);
        due.rows("inner join; UNKNOWN is not TRUE", q, 1, 1, N, 1, 2, N, 3, 1, N, 3, 2, N);
        q.erase(1);
        due.feed(q, 1, 83, 1, 10);
        due.rows("inner join with NULL the same as NULL", q, 1, 1, N, 1, 2, N, 2, 3, N, 3, 1, N, 3, 2, N);
        q.from(2, false);
        due.feed(q, 2, 81, 20, 0);
        due.feed(q, 6, 21);
        due.rows("three sources", q, 1, 1, 8, 1, 2, 8, 3, 1, 9, 3, 2, 9);
    }

    private static void leftJoins() {
        NullQueries q = people();
        q.from(0, false);
        q.from(1, true);
        due.feed(q, 1, 81, 1, 10);
        due.feed(q, 4, 0);
        due.feed(q, 5, 11);
        due.feed(q, 6, 74, 12, 49);
        due.rows("left join", q, 1, 1, 1, 1, 2, 2, 2, N, -1, 3, 1, 1, 3, 2, 2);
        NullQueries none = new NullQueries();
        none.row(0, 1, 2, 3);
        none.from(0, false);
        none.from(1, true);
        due.feed(none, 4, 2);
        due.feed(none, 5, 10);
        due.rows("left join with an empty table, no ON", none, 3, N, N);
        none.from(1, false);
        due.rows("inner join with an empty table", none);
    }

    private static void leftJoinsInARow() {
        NullQueries q = people();
        q.from(0, false);
        q.from(1, true);
        q.from(2, true);
        due.feed(q, 1, 86, 81, 1, 10, 81, 0, 11);
        due.feed(q, 2, 81, 20, 11);
        due.feed(q, 4, 0);
        due.feed(q, 5, 11);
        due.feed(q, 6, 21);
        due.rows("left and left", q, 1, 1, 8, 2, N, N, 3, N, N);
        q.erase(2);
        due.feed(q, 2, 82, 11);
        due.rows("ON of source 2 sees the NULLs of source 1", q, 1, 1, N, 2, N, 8, 2, N, 9, 3, N, 8, 3, N, 9);
        q.clear();
        q.from(0, false);
        q.from(1, true);
        q.from(2, false);
        due.feed(q, 1, 86, 81, 1, 10, 81, 0, 11);
        due.feed(q, 2, 80, 11, 22);
        due.feed(q, 4, 0);
        due.rows("an INNER join drops what a LEFT one kept", q);
        q.erase(2);
        due.feed(q, 2, 81, 20, 0);
        due.rows("left and inner", q, 1, N, N, 3, N, N);
    }

    private static void sourceZeroIsNeverLeft() {
        NullQueries q = new NullQueries();
        q.from(0, true);
        due.feed(q, 4, 51);
        due.rows("left of source 0 says nothing", q);
        q.row(0, 1, 2, 3);
        due.feed(q, 0, 81, 0, 52);
        due.rows("WHERE of source 0 is no ON", q);
    }

    private static void conditionsOfMissingSources() {
        NullQueries q = people();
        q.from(0, false);
        due.feed(q, 4, 0);
        due.feed(q, 1, 81, 50, 51);
        due.feed(q, 2, 81, 50, 51);
        due.rows("ON of sources that are not there", q, 1, N, N, 2, N, N, 3, N, N);
        q.from(2, false);
        due.rows("ON of source 1", q);
    }

    private static void whereAfterJoins() {
        NullQueries q = people();
        q.from(0, false);
        q.from(1, true);
        due.feed(q, 1, 81, 1, 10);
        due.feed(q, 4, 0);
        due.feed(q, 5, 11);
        due.feed(q, 0, 82, 11);
        due.rows("WHERE sees the NULLs of a left join", q, 2, N, N);
        q.erase(0);
        due.feed(q, 0, 80, 11, 52);
        due.rows("WHERE that is UNKNOWN keeps nothing", q, 1, 1, N, 3, 1, N);
    }

    private static NullQueries full() {
        NullQueries q = new NullQueries();
        for (int i = 0; i < 6; i++) {
            for (int table = 0; table < 3; table++) {
                q.row(table, i, 0, 0);
            }
        }
        for (int table = 0; table < 3; table++) {
            q.from(table, true);
        }
        return q;
    }

    /** The answer has to be all 216 combinations in their order; by a third, so that 512 calls do. */
    private static void allRows(String what, NullQueries q, int rest) {
        due.is(what + ": run()", q.run(), 216);
        int digest = 0;
        for (int i = 0; i < 216; i++) {
            int[] want = {i / 36, i / 6 % 6, i % 6};
            digest += (i + 1) * (want[0] + 3 * want[1] + 7 * want[2]);
            int output = (i + rest) % 3;
            due.is(what + ": answer(" + i + ", " + output + ")", q.answer(i, output), want[output]);
        }
        due.is(what + ": digest()", q.digest(), digest);
        due.is(what + ": answer after the last", q.answer(216, 0), Due.NONE);
    }

    private static void allCombinations() {
        for (int rest = 0; rest < 3; rest++) {
            for (int distinct = 0; distinct < 2; distinct++) {
                NullQueries q = full();
                q.distinct(distinct == 1);
                due.feed(q, 4, 0);
                due.feed(q, 5, 10);
                due.feed(q, 6, 20);
                allRows("216 combinations", q, rest);
                due.feed(q, 9, 72, 50, 73, 0, 50);
                allRows("216 equal in order", q, rest);
            }
        }
        NullQueries q = full();
        due.feed(q, 4, 0);
        due.feed(q, 9, 72, 50, 0);
        q.distinct(true);
        due.rows("216 backwards", q, 5, N, N, 4, N, N, 3, N, N, 2, N, N, 1, N, N, 0, N, N);
        q.summary(1, 1);
        due.rows("one group of 216", q, 0, 216, N);
        q.distinct(false);
        due.feed(q, 7, 20);
        due.feed(q, 8, 10);
        due.is("36 groups", q.run(), 36);
        due.is("six members each", q.answer(35, 1), 6);
    }

    private static NullQueries sales() {
        NullQueries q = new NullQueries();
        q.row(0, 2, 4, 1);
        q.row(0, N, 5, 1);
        q.row(0, 1, N, 2);
        q.row(0, 2, -3, 2);
        q.row(0, N, N, 1);
        q.row(0, 1, N, 1);
        q.from(0, false);
        return q;
    }

    private static void groupsByKeys() {
        for (int part = 7; part <= 8; part++) {
            NullQueries q = sales();
            due.feed(q, part, 0);
            due.feed(q, 4, 0);
            due.feed(q, 5, 1);
            due.feed(q, 6, 2);
            due.rows("a key in part " + part, q, 2, 4, 1, N, 5, 1, 1, N, 2);
            due.feed(q, 15 - part, 2);
            due.rows("two keys", q, 2, 4, 1, N, 5, 1, 1, N, 2, 2, -3, 2, 1, N, 1);
        }
        NullQueries q = sales();
        due.feed(q, 7, 73, 2, 2);
        due.feed(q, 4, 2);
        q.summary(1, 1);
        due.rows("a key that is worked out", q, 1, 4, N, 2, 2, N);
    }

    private static void groupsWithoutMembers() {
        NullQueries q = new NullQueries();
        q.from(0, false);
        due.feed(q, 4, 74, 0, 57);
        due.feed(q, 5, 1);
        due.rows("no combinations, no groups asked for", q);
        q.summary(1, 1);
        due.rows("counting none", q, 7, 0, N);
        q.summary(1, 2);
        due.rows("counting none that is not NULL", q, 7, 0, N);
        for (int kind = 3; kind <= 5; kind++) {
            q.summary(1, kind);
            due.rows("kind " + kind + " of none", q, 7, N, N);
        }
        q.summary(0, 3);
        due.rows("sum of none, of a number", q, N, N, N);
        q.summary(0, 2);
        due.rows("count of none, of a number", q, 0, N, N);
        q.summary(0, 0);
        q.summary(1, 0);
        due.feed(q, 3, 82, 0);
        due.rows("HAVING sees NULL in a group without members", q, 7, N, N);
        due.is("digest", q.digest(), 7);
        q.erase(3);
        due.feed(q, 3, 81, 0, 0);
        due.rows("HAVING is not TRUE", q);
        q.erase(3);
        q.summary(1, 1);
        due.feed(q, 7, 50);
        due.rows("with a key, no combinations make no group", q);
        q.erase(7);
        due.feed(q, 8, 50);
        due.rows("with the other key, no combinations make no group", q);
        NullQueries dropped = sales();
        due.feed(dropped, 0, 81, 50, 51);
        due.feed(dropped, 4, 0);
        due.feed(dropped, 9, 1);
        dropped.summary(2, 1);
        dropped.distinct(true);
        due.rows("WHERE drops all", dropped, N, N, 0);
    }

    private static void summariesOfGroups() {
        int[][] want = {
            {2, 4, N, N, 5, N, 1, N, N},
            {2, 2, N, N, 2, N, 1, 2, N},
            {2, 2, N, N, 1, N, 1, 0, N},
            {2, 1, N, N, 5, N, 1, N, N},
            {2, -3, N, N, 5, N, 1, N, N},
            {2, 4, N, N, 5, N, 1, N, N},
        };
        for (int kind = 0; kind <= 5; kind++) {
            NullQueries q = sales();
            due.feed(q, 7, 0);
            due.feed(q, 4, 0);
            due.feed(q, 5, 1);
            q.summary(1, kind);
            due.rows("summary " + kind, q, want[kind]);
        }
        NullQueries q = sales();
        due.feed(q, 4, 1);
        due.feed(q, 5, 1);
        due.feed(q, 6, 1);
        q.summary(0, 3);
        q.summary(1, 4);
        q.summary(2, 5);
        due.rows("summaries over all", q, 6, -3, 5);
        q.summary(0, 1);
        q.summary(1, 2);
        q.summary(2, 0);
        due.rows("summaries over all", q, 6, 3, 4);
    }

    private static void summariesOfEmptyOutputs() {
        for (int output = 0; output < 3; output++) {
            for (int kind = 1; kind <= 5; kind++) {
                NullQueries q = sales();
                q.summary(output, kind);
                int[] want = {N, N, N};
                want[output] = kind == 1 ? 6 : N;
                due.rows("summary " + kind + " of the empty output " + output, q, want);
            }
        }
    }

    private static void whatMakesGroups() {
        NullQueries q = sales();
        due.is("no groups", q.run(), 6);
        due.feed(q, 3, 83, 50, 50);
        due.is("HAVING makes one group", q.run(), 1);
        q.erase(3);
        for (int output = 0; output < 3; output++) {
            q.summary(output, 2);
            due.is("a summary of output " + output + " makes one group", q.run(), 1);
            q.summary(output, 0);
        }
        due.is("no groups", q.run(), 6);
        due.feed(q, 7, 70);
        due.is("a key makes groups", q.run(), 1);
        q.erase(7);
        due.feed(q, 8, 1);
        due.is("a key makes groups", q.run(), 4);
    }

    private static void havingOfFirstMembers() {
        NullQueries q = sales();
        due.feed(q, 7, 0);
        due.feed(q, 4, 0);
        due.feed(q, 5, 1);
        q.summary(1, 1);
        due.feed(q, 3, 81, 2, 51);
        due.rows("HAVING of the first member", q, 2, 2, N, N, 2, N);
        q.erase(3);
        due.feed(q, 3, 80, 1, 59);
        due.rows("HAVING that is UNKNOWN", q, 2, 2, N, N, 2, N);
        q.erase(3);
        due.feed(q, 3, 84, 80, 1, 59);
        due.rows("HAVING that is UNKNOWN or FALSE", q);
    }

    private static void ordered() {
        NullQueries q = sales();
        due.feed(q, 4, 0);
        due.feed(q, 5, 1);
        due.feed(q, 6, 2);
        due.feed(q, 9, 0);
        due.rows("NULL first, equal ones in their order", q,
                N, 5, 1, N, N, 1, 1, N, 2, 1, N, 1, 2, 4, 1, 2, -3, 2);
        q.erase(9);
        due.feed(q, 9, 1);
        due.rows("negative ones first", q,
                1, N, 2, N, N, 1, 1, N, 1, 2, -3, 2, 2, 4, 1, N, 5, 1);
        q.erase(9);
        due.feed(q, 9, 72, 50, 74, 1, 41);
        due.rows("backwards", q,
                N, 5, 1, 2, 4, 1, 2, -3, 2, 1, N, 2, N, N, 1, 1, N, 1);
    }

    private static void orderedGroups() {
        NullQueries q = sales();
        due.feed(q, 4, 0);
        q.summary(1, 1);
        due.feed(q, 7, 0);
        due.feed(q, 9, 72, 50, 2);
        due.rows("groups by the order of the first member", q, 1, 2, N, 2, 2, N, N, 2, N);
        q.erase(9);
        due.feed(q, 9, 1);
        due.rows("groups by the order of the first member", q, 1, 2, N, 2, 2, N, N, 2, N);
        q.erase(9);
        due.feed(q, 9, 0);
        due.rows("groups by the order of the key", q, N, 2, N, 1, 2, N, 2, 2, N);
    }

    private static void distinctRows() {
        NullQueries q = sales();
        due.feed(q, 4, 0);
        q.distinct(true);
        due.rows("DISTINCT, NULL the same as NULL", q, 2, N, N, N, N, N, 1, N, N);
        due.feed(q, 6, 2);
        due.rows("DISTINCT of two outputs", q, 2, N, 1, N, N, 1, 1, N, 2, 2, N, 2, 1, N, 1);
        due.feed(q, 5, 75, 1, 1);
        due.rows("DISTINCT of three outputs", q, 2, N, 1, N, N, 1, 1, N, 2, 2, N, 2, 1, N, 1);
        q.erase(5);
        due.feed(q, 5, 1);
        due.is("all different", q.run(), 6);
        q.distinct(false);
        q.erase(4);
        q.erase(5);
        due.rows("not DISTINCT", q, N, N, 1, N, N, 1, N, N, 2, N, N, 2, N, N, 1, N, N, 1);
        q.distinct(true);
        q.erase(6);
        due.rows("no outputs", q, N, N, N);
        due.feed(q, 7, 0);
        q.summary(0, 1);
        due.rows("DISTINCT of groups", q, 2, N, N);
    }

    private static void distinctAfterOrder() {
        NullQueries q = sales();
        due.feed(q, 4, 0);
        due.feed(q, 9, 1);
        q.distinct(true);
        due.rows("the first in the order stays", q, 1, N, N, N, N, N, 2, N, N);
        q.erase(9);
        due.feed(q, 9, 72, 50, 1);
        due.rows("the first in the order stays", q, 1, N, N, N, N, N, 2, N, N);
        q.erase(9);
        due.feed(q, 9, 74, 1, 41);
        due.rows("the first in the order stays", q, 1, N, N, N, N, N, 2, N, N);
        q.erase(9);
        due.feed(q, 9, 74, 1, 59);
        due.rows("the first in the order stays", q, 2, N, N, N, N, N, 1, N, N);
    }

    private static void answersAreKept() {
        NullQueries q = sales();
        due.feed(q, 4, 0);
        due.feed(q, 5, 1);
        due.is("run", q.run(), 6);
        int digest = q.digest();
        q.drop(0, 0);
        q.row(0, 9, 9, 9);
        q.from(1, false);
        q.erase(4);
        q.summary(0, 1);
        q.distinct(true);
        due.is("size", q.size(), 6);
        due.is("answer", q.answer(0, 0), 2);
        due.is("answer", q.answer(3, 1), -3);
        due.is("digest", q.digest(), digest);
        due.rows("run again", q, 0, N, N);
    }

    private static void answerRefuses() {
        NullQueries q = sales();
        due.feed(q, 4, 0);
        due.is("before the run", q.answer(0, 0), Due.NONE);
        due.is("run", q.run(), 6);
        for (int i : new int[] {-1, 6, 7, 216, Integer.MIN_VALUE, Integer.MAX_VALUE}) {
            due.is("answer of row " + i, q.answer(i, 0), Due.NONE);
        }
        for (int output : new int[] {-1, 3, Integer.MIN_VALUE, Integer.MAX_VALUE}) {
            due.is("answer of output " + output, q.answer(1, output), Due.NONE);
        }
        due.is("the last row", q.answer(5, 0), 1);
        due.is("an empty output", q.answer(5, 2), N);
    }

    private static void digests() {
        NullQueries q = sales();
        due.feed(q, 4, 0);
        due.is("run", q.run(), 6);
        due.is("digest of output 0", q.digest(), 2 + 3 + 4 * 2 + 6);
        q.erase(4);
        due.feed(q, 5, 1);
        due.is("run", q.run(), 6);
        due.is("digest of output 1", q.digest(), 3 * (4 + 2 * 5 - 4 * 3));
        q.erase(5);
        due.feed(q, 6, 2);
        due.is("run", q.run(), 6);
        due.is("digest of output 2", q.digest(), 7 * (1 + 2 + 3 * 2 + 4 * 2 + 5 + 6));
        due.feed(q, 4, 0);
        due.feed(q, 5, 1);
        due.is("run", q.run(), 6);
        due.is("digest of all", q.digest(), 19 + 6 + 196);
    }
}
