/** Sentence by sentence: the combinations of the sources' rows, which promise 12 works with. */
public final class JoinsTest {
    private static final Due due = new Due();
    private static final int N = Due.NULL;

    public static void main(String[] args) {
        sourcesAfterTheFirst();
        rowsOfSourceZero();
        rowsForWhichOnIsTrue();
        emptyOnConditions();
        innerJoinsOfNoRow();
        leftJoinsOfNoRow();
        joinsSourceBySource();
        allCombinations();
        whereIsTrue();
        emptyWhere();
        sourcesNamedByConditions();
        due.end();
    }

    private static NullQueries people() {
        NullQueries q = new NullQueries();
        q.row(0, 1, 5, N);
        q.row(0, 2, N, 3);
        q.row(0, 3, 5, 4);
        q.row(1, 5, 1, 1);
        q.row(1, 5, 2, 2);
        q.row(1, N, 3, 3);
        q.row(2, 1, 8, 0);
        q.row(2, 3, 9, 0);
        return q;
    }

    /** Table 0 joined with table 1, where column 1 of the one equals column 0 of the other. */
    private static NullQueries peopleJoined(boolean left) {
        NullQueries q = people();
        q.from(0, false);
        q.from(1, left);
        due.feed(q, 1, 81, 1, 10);
        due.feed(q, 4, 0);
        due.feed(q, 5, 11);
        return q;
    }

    private static void sourcesAfterTheFirst() {
        due.says("Terms", "those after the first are JOINED: kind 0 INNER, 1 LEFT.");
        for (int kinds = 0; kinds < 8; kinds++) {
            NullQueries q = new NullQueries();
            q.row(0, 1, 2, 3);
            for (int source = 0; source < 3; source++) {
                q.from(source, (kinds >> source & 1) == 1);
                boolean inner = (kinds >> 1 & 1) == 0 && source >= 1 || (kinds >> 2 & 1) == 0 && source >= 2;
                due.is("kinds " + kinds + " of " + (source + 1) + " sources", q.run(), inner ? 0 : 1);
            }
            q.drop(0, 0);
            due.is("kinds " + kinds + ", source 0 without rows", q.run(), 0);
        }
    }

    private static void rowsOfSourceZero() {
        due.says("Terms", "THE COMBINATIONS: for the rows of source 0 in their order, each alone");
        for (int table = 0; table < 3; table++) {
            NullQueries q = new NullQueries();
            q.from(table, true);
            due.feed(q, 4, 0);
            due.rows("no rows", q);
            for (int i = 0; i < 6; i++) {
                q.row(table, 9 - i, 0, 0);
                int[] want = new int[3 * (i + 1)];
                for (int k = 0; k <= i; k++) {
                    want[3 * k] = 9 - k;
                    want[3 * k + 1] = N;
                    want[3 * k + 2] = N;
                }
                due.rows((i + 1) + " rows", q, want);
            }
        }
        NullQueries q = people();
        q.from(0, false);
        due.feed(q, 4, 0);
        // Without sources 1 and 2 these are the ON conditions of nothing.
        due.feed(q, 1, 80, 50, 50);
        due.feed(q, 2, 80, 50, 50);
        due.rows("source 0 alone has no ON condition", q, 1, N, N, 2, N, N, 3, N, N);
        q.from(2, false);
        due.rows("source 1 has one", q);
    }

    private static void rowsForWhichOnIsTrue() {
        due.says("Terms", "every combination so far is put together with the rows of the source, in their order, for which the ON condition");
        NullQueries q = peopleJoined(false);
        due.rows("UNKNOWN is not TRUE", q, 1, 1, N, 1, 2, N, 3, 1, N, 3, 2, N);
        due.refeed(q, 1, 83, 1, 10);
        due.rows("NULL the same as NULL", q, 1, 1, N, 1, 2, N, 2, 3, N, 3, 1, N, 3, 2, N);
        q.from(2, false);
        due.feed(q, 2, 81, 20, 0);
        due.feed(q, 6, 21);
        due.rows("three sources", q, 1, 1, 8, 1, 2, 8, 3, 1, 9, 3, 2, 9);
    }

    private static void emptyOnConditions() {
        due.says("Terms", "(if it is empty: always)");
        for (boolean left : new boolean[] {false, true}) {
            NullQueries q = people();
            q.from(0, false);
            q.from(1, left);
            due.feed(q, 4, 0);
            due.feed(q, 5, 11);
            due.rows("no ON condition", q, 1, 1, N, 1, 2, N, 1, 3, N, 2, 1, N, 2, 2, N, 2, 3, N, 3, 1, N, 3, 2, N, 3, 3, N);
            q.from(2, left);
            due.is("no ON conditions", q.run(), 18);
            due.feed(q, 1, 80, 50, 50);
            due.is("one ON condition, the other one empty", q.run(), left ? 6 : 0);
            q.erase(1);
            due.feed(q, 2, 80, 50, 50);
            due.is("the other ON condition", q.run(), left ? 9 : 0);
        }
    }

    private static void innerJoinsOfNoRow() {
        due.says("Terms", "if there is none, an INNER join drops the combination");
        NullQueries q = people();
        q.from(2, true);
        q.from(0, false);
        due.feed(q, 4, 0);
        due.feed(q, 5, 10);
        due.feed(q, 1, 80, 0, 10);
        due.rows("one without a row", q, 1, 2, N, 1, 3, N);
        due.refeed(q, 1, 80, 10, 0);
        due.rows("the other one without a row", q, 3, 1, N, 3, 2, N);
        due.refeed(q, 1, 81, 70, 0);
        due.rows("UNKNOWN for all", q);
        NullQueries none = new NullQueries();
        none.row(0, 1, 2, 3);
        none.from(0, false);
        none.from(1, false);
        due.rows("an empty table", none);
        due.feed(none, 1, 83, 50, 50);
        due.rows("an empty table, and ON is TRUE", none);
    }

    private static void leftJoinsOfNoRow() {
        due.says("Terms", "a LEFT one keeps it, with NULL in all columns of the source.");
        NullQueries q = peopleJoined(true);
        due.feed(q, 6, 74, 12, 49);
        due.rows("one without a row", q, 1, 1, 1, 1, 2, 2, 2, N, -1, 3, 1, 1, 3, 2, 2);
        due.refeed(q, 1, 80, 50, 50);
        due.rows("all without a row", q, 1, N, -1, 2, N, -1, 3, N, -1);
        due.refeed(q, 1, 81, 70, 50);
        due.rows("UNKNOWN for all", q, 1, N, -1, 2, N, -1, 3, N, -1);
        NullQueries none = new NullQueries();
        none.row(0, 1, 2, 3);
        none.from(0, false);
        none.from(1, true);
        due.feed(none, 4, 10);
        due.feed(none, 5, 11);
        due.feed(none, 6, 12);
        due.rows("an empty table without ON", none, N, N, N);
        due.feed(none, 1, 83, 50, 50);
        due.rows("an empty table, and ON is TRUE", none, N, N, N);
        none.row(1, 4, 5, 6);
        due.rows("a row", none, 4, 5, 6);
        none.drop(0, 0);
        due.rows("no combination to keep", none);
    }

    private static void joinsSourceBySource() {
        due.says("Terms", "then, source by source");
        NullQueries q = people();
        q.from(0, false);
        q.from(1, true);
        q.from(2, true);
        due.feed(q, 1, 86, 81, 1, 10, 81, 0, 11);
        due.feed(q, 2, 81, 20, 11);
        due.feed(q, 4, 0);
        due.feed(q, 5, 11);
        due.feed(q, 6, 21);
        due.rows("LEFT and LEFT", q, 1, 1, 8, 2, N, N, 3, N, N);
        due.refeed(q, 2, 82, 11);
        due.rows("ON of source 2 sees the NULLs of source 1", q, 1, 1, N, 2, N, 8, 2, N, 9, 3, N, 8, 3, N, 9);
        q.clear();
        q.from(0, false);
        q.from(1, true);
        q.from(2, false);
        due.feed(q, 1, 86, 81, 1, 10, 81, 0, 11);
        due.feed(q, 2, 80, 11, 22);
        due.feed(q, 4, 0);
        due.rows("an INNER join drops what a LEFT one kept", q);
        due.refeed(q, 2, 81, 20, 0);
        due.rows("LEFT and INNER", q, 1, N, N, 3, N, N);
        q.clear();
        q.from(0, false);
        q.from(1, false);
        q.from(2, true);
        due.feed(q, 1, 80, 50, 50);
        due.rows("a LEFT join keeps nothing that an INNER one dropped", q);
    }

    private static NullQueries full() {
        NullQueries q = new NullQueries();
        for (int table = 0; table < 3; table++) {
            Sample.fill(q, table);
            q.from(table, true);
            due.feed(q, 4 + table, 10 * table);
        }
        return q;
    }

    /** All 216 combinations have to be there in their order; one output of each, so that 512 calls do. */
    private static void allRows(String what, NullQueries q, int rest) {
        due.is(what + ": run()", q.run(), 216);
        due.is(what + ": size()", q.size(), 216);
        int digest = 0;
        for (int i = 0; i < 216; i++) {
            int[] want = {i / 36, i / 6 % 6, i % 6};
            digest += (i + 1) * (want[0] + 3 * want[1] + 7 * want[2]);
            int output = (i + rest) % 3;
            due.is(what + ": answer(" + i + ", " + output + ")", q.answer(i, output), want[output]);
        }
        due.is(what + ": digest()", q.digest(), digest);
        due.is(what + ": answer after the last", q.answer(216, 0), Due.NONE);
    }

    private static void allCombinations() {
        due.says("Terms", "every combination so far is put together with the rows of the source, in their order");
        for (int rest = 0; rest < 3; rest++) {
            for (boolean distinct : new boolean[] {false, true}) {
                NullQueries q = full();
                q.distinct(distinct);
                allRows("216 combinations", q, rest);
                NullQueries ordered = full();
                ordered.distinct(distinct);
                due.feed(ordered, 9, 72, 50, 73, 0, 50);
                allRows("216 equal in order", ordered, rest);
                NullQueries grouped = full();
                grouped.distinct(distinct);
                due.feed(grouped, 7, 71, 73, 56, 0, 10);
                due.feed(grouped, 8, 20);
                allRows("216 groups", grouped, rest);
            }
        }
        NullQueries q = full();
        q.erase(5);
        q.erase(6);
        due.feed(q, 9, 72, 50, 0);
        q.distinct(true);
        due.rows("216 backwards", q, 5, N, N, 4, N, N, 3, N, N, 2, N, N, 1, N, N, 0, N, N);
        q.summary(1, 1);
        due.rows("one group of 216", q, 0, 216, N);
        q.distinct(false);
        due.feed(q, 7, 20);
        due.feed(q, 8, 10);
        due.is("36 groups", q.run(), 36);
        due.is("six members each", q.answer(35, 1), 6);
    }

    private static void whereIsTrue() {
        due.says("Terms", "Those are kept for which WHERE is TRUE (or which is empty).");
        NullQueries q = peopleJoined(true);
        due.feed(q, 0, 82, 11);
        due.rows("WHERE sees the NULLs of a LEFT join", q, 2, N, N);
        due.refeed(q, 0, 80, 11, 52);
        due.rows("UNKNOWN is not kept", q, 1, 1, N, 3, 1, N);
        due.refeed(q, 0, 84, 80, 11, 52);
        due.rows("nor is NOT UNKNOWN", q, 1, 2, N, 3, 2, N);
        due.refeed(q, 0, 80, 50, 50);
        due.rows("FALSE for all", q);
        due.refeed(q, 0, 81, 70, 70);
        due.rows("UNKNOWN for all", q);
    }

    private static void emptyWhere() {
        due.says("Terms", "(or which is empty)");
        NullQueries q = people();
        q.from(2, false);
        due.feed(q, 4, 1);
        due.rows("no WHERE", q, 8, N, N, 9, N, N);
        due.feed(q, 0, 83, 50, 50);
        due.rows("WHERE is TRUE", q, 8, N, N, 9, N, N);
        due.refeed(q, 0, 81, 0, 53);
        due.rows("WHERE", q, 9, N, N);
        q.erase(0);
        due.rows("no WHERE again", q, 8, N, N, 9, N, N);
    }

    private static void sourcesNamedByConditions() {
        due.says("Terms", "The ON condition of a source may name the sources up to it; WHERE, outputs, keys, HAVING and ORDER all sources.");
        NullQueries q = people();
        q.from(2, false);
        q.from(1, false);
        q.from(0, false);
        due.feed(q, 1, 80, 0, 12);
        due.feed(q, 2, 86, 81, 20, 12, 83, 21, 10);
        due.feed(q, 4, 0);
        due.feed(q, 5, 11);
        due.feed(q, 6, 20);
        due.rows("ON of source 1, and of source 2", q);
        due.refeed(q, 2, 81, 20, 12);
        due.rows("ON of source 1, and of source 2", q, 1, 2, 2, 1, 3, 3);
        due.feed(q, 0, 81, 22, 54);
        due.rows("WHERE of source 2", q, 1, 3, 3);
        q.erase(0);
        due.feed(q, 9, 72, 50, 20);
        due.rows("ORDER of source 2", q, 1, 3, 3, 1, 2, 2);
        due.feed(q, 3, 81, 20, 52);
        due.feed(q, 7, 20);
        due.rows("HAVING and key of source 2", q, 1, 2, 2);
    }
}
