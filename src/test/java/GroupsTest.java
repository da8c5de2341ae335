/** Sentence by sentence: groups, summaries, HAVING, DISTINCT and ORDER, which promise 12 works with. */
public final class GroupsTest {
    private static final Due due = new Due();
    private static final int N = Due.NULL;
    // Column 0 times 8 to the 9th, which is 2 to the 27th.
    private static final int[] TIMES_GREAT = {73, 0, 73, 73, 73, 73, 73, 73, 73, 73, 58, 58, 58, 58, 58, 58, 58, 58, 58};
    private static final int GREAT = 1 << 27;
    // Column 0 times 9 to the 9th, which wraps from 6 on.
    private static final int[] TIMES_NINES = {73, 0, 73, 73, 73, 73, 73, 73, 73, 73, 59, 59, 59, 59, 59, 59, 59, 59, 59};

    public static void main(String[] args) {
        whatMakesGroups();
        everyCombinationElse();
        outputsInTheirOrder();
        sameValuesOfAllKeys();
        placesOfGroups();
        oneGroupWithoutKeys();
        groupsOfNoCombinations();
        havingOfFirstMembers();
        groupsWithoutMembers();
        valuesOfFirstMembers();
        numbersOfMembers();
        numbersOfMembersNotNull();
        sumsLeastAndGreatest();
        sumsWrap();
        leastAndGreatestOfGreatNumbers();
        summariesOfNothingButNull();
        emptyOutputs();
        distinctRows();
        orderOfRows();
        orderOfGroups();
        orderOfGreatNumbers();
        distinctAfterOrder();
        due.end();
    }

    private static NullQueries sales() {
        NullQueries q = new NullQueries();
        q.row(0, 2, 4, 1);
        q.row(0, N, 5, 1);
        q.row(0, 1, N, 2);
        q.row(0, 2, -3, 2);
        q.row(0, N, N, 1);
        q.row(0, 1, N, 1);
        q.from(0, false);
        return q;
    }

    private static NullQueries column(int... values) {
        NullQueries q = new NullQueries();
        for (int value : values) {
            q.row(0, value, 0, 0);
        }
        q.from(0, false);
        return q;
    }

    private static void whatMakesGroups() {
        due.says("Terms", "If a key is not empty, or an output has a SUMMARY, or HAVING is not empty, the combinations are GROUPED");
        NullQueries q = sales();
        due.is("nothing", q.run(), 6);
        due.feed(q, 3, 83, 50, 50);
        due.is("HAVING alone", q.run(), 1);
        q.erase(3);
        for (int output = 0; output < 3; output++) {
            for (int kind = 1; kind <= 5; kind++) {
                q.summary(output, kind);
                due.is("summary " + kind + " alone, of the empty output " + output, q.run(), 1);
            }
            q.summary(output, 0);
            due.is("no summary", q.run(), 6);
        }
        due.feed(q, 7, 70);
        due.is("the first key alone", q.run(), 1);
        q.erase(7);
        due.feed(q, 8, 1);
        due.is("the second key alone", q.run(), 4);
    }

    private static void everyCombinationElse() {
        due.says("Terms", "Else every combination is a row of the answer.");
        NullQueries q = column(7, 7, N, N);
        due.feed(q, 5, 0);
        due.rows("the same rows", q, N, 7, N, N, 7, N, N, N, N, N, N, N);
        due.feed(q, 0, 80, 50, 50);
        due.rows("no combination", q);
        due.rows("no rows", column());
    }

    private static void outputsInTheirOrder() {
        due.says("Terms", "A row of the answer has the values of the three outputs, in their order");
        NullQueries q = column(4);
        for (int output = 0; output < 3; output++) {
            due.feed(q, 4 + output, 71, 0, 51 + output);
        }
        due.rows("a combination", q, 5, 6, 7);
        q.summary(1, 1);
        due.rows("a group", q, 5, 1, 7);
        q.erase(4);
        due.rows("an empty output keeps its place", q, N, 1, 7);
    }

    private static void sameValuesOfAllKeys() {
        due.says("Terms", "those that have the same values of all keys that are not empty (NULL is the same as NULL) are one group");
        for (int part = 7; part <= 8; part++) {
            NullQueries q = sales();
            due.feed(q, part, 0);
            due.feed(q, 4, 0);
            q.summary(1, 1);
            due.rows("one key, in part " + part, q, 2, 2, N, N, 2, N, 1, 2, N);
            due.feed(q, 15 - part, 2);
            due.feed(q, 6, 2);
            due.rows("two keys", q, 2, 1, 1, N, 2, 1, 1, 1, 2, 2, 1, 2, 1, 1, 1);
            due.refeed(q, part, 70);
            due.refeed(q, 15 - part, 70);
            due.rows("keys that are NULL for all", q, 2, 6, 1);
        }
        NullQueries q = sales();
        due.feed(q, 7, 73, 2, 2);
        due.feed(q, 4, 2);
        q.summary(1, 1);
        due.rows("a key that is worked out", q, 1, 4, N, 2, 2, N);
    }

    private static void placesOfGroups() {
        due.says("Terms", "which comes at the place of its first member");
        NullQueries q = column(5, 3, 4, 3, 5, 1);
        due.feed(q, 7, 0);
        due.feed(q, 4, 0);
        due.rows("groups of two and of one", q, 5, N, N, 3, N, N, 4, N, N, 1, N, N);
        q.drop(0, 0);
        due.rows("another first member", q, 3, N, N, 4, N, N, 5, N, N, 1, N, N);
    }

    private static void oneGroupWithoutKeys() {
        due.says("Terms", "without keys, all are one group");
        NullQueries q = sales();
        due.feed(q, 4, 0);
        q.summary(2, 1);
        due.rows("a summary, no key", q, 2, N, 6);
        due.feed(q, 3, 83, 50, 50);
        due.rows("a summary and HAVING, no key", q, 2, N, 6);
    }

    private static void groupsOfNoCombinations() {
        due.says("Terms", "also if there are none.");
        NullQueries q = column();
        due.feed(q, 4, 0);
        q.summary(1, 1);
        due.rows("no rows, a summary", q, N, 0, N);
        due.is("digest", q.digest(), 0);
        due.feed(q, 7, 50);
        due.rows("with the first key there is no group", q);
        q.erase(7);
        due.feed(q, 8, 50);
        due.rows("with the second key there is no group", q);
        q.erase(8);
        q.summary(1, 0);
        due.rows("no groups asked for", q);
        due.feed(q, 3, 83, 50, 50);
        due.rows("no rows, HAVING", q, N, N, N);
        NullQueries dropped = sales();
        due.feed(dropped, 0, 80, 50, 50);
        due.feed(dropped, 4, 0);
        due.feed(dropped, 9, 1);
        dropped.summary(2, 1);
        dropped.distinct(true);
        due.rows("WHERE drops all", dropped, N, N, 0);
        NullQueries joined = sales();
        joined.from(1, false);
        joined.summary(2, 1);
        due.rows("an INNER join drops all", joined, N, N, 0);
    }

    private static void havingOfFirstMembers() {
        due.says("Terms", "A group is a row of the answer if HAVING is TRUE for its first member, or empty");
        NullQueries q = sales();
        due.feed(q, 7, 0);
        due.feed(q, 4, 0);
        q.summary(1, 1);
        due.rows("no HAVING", q, 2, 2, N, N, 2, N, 1, 2, N);
        due.feed(q, 3, 81, 2, 51);
        due.rows("the first member, not the others", q, 2, 2, N, N, 2, N);
        due.refeed(q, 3, 80, 1, 59);
        due.rows("UNKNOWN for a first member", q, 2, 2, N, N, 2, N);
        due.refeed(q, 3, 84, 80, 1, 59);
        due.rows("UNKNOWN or FALSE for all", q);
    }

    private static void groupsWithoutMembers() {
        due.says("Terms", "(for a group without members every column of all sources is NULL)");
        NullQueries q = new NullQueries();
        q.row(0, 1, 2, 3);
        q.row(1, 4, 5, 6);
        q.row(2, 7, 8, 9);
        for (int table = 0; table < 3; table++) {
            q.from(table, false);
        }
        due.feed(q, 0, 80, 50, 50);
        for (int source = 0; source < 3; source++) {
            for (int column = 0; column < 3; column++) {
                due.refeed(q, 3, 82, 10 * source + column);
                due.rows("HAVING a column that is NULL", q, N, N, N);
                due.refeed(q, 3, 81, 10 * source + column, 10 * source + column);
                due.rows("HAVING that is UNKNOWN", q);
            }
        }
        due.refeed(q, 3, 92, 81, 31, 58);
        due.rows("a subquery has its rows", q, N, N, N);
        due.refeed(q, 3, 83, 50, 50);
        due.feed(q, 4, 74, 0, 57);
        due.feed(q, 5, 11);
        due.feed(q, 6, 53);
        due.feed(q, 9, 22);
        due.rows("outputs without a summary", q, 7, N, 3);
        due.is("digest", q.digest(), 7 + 21);
    }

    private static void valuesOfFirstMembers() {
        due.says("Terms", "0 none: its value for the first member");
        NullQueries q = sales();
        due.feed(q, 7, 0);
        due.feed(q, 4, 0);
        due.feed(q, 5, 1);
        due.feed(q, 6, 2);
        due.rows("the first members", q, 2, 4, 1, N, 5, 1, 1, N, 2);
    }

    private static void summary(int kind, int... want) {
        NullQueries q = sales();
        due.feed(q, 7, 0);
        due.feed(q, 5, 1);
        q.summary(1, kind);
        due.is("run", q.run(), 3);
        for (int i = 0; i < 3; i++) {
            due.is("summary " + kind + " of group " + i, q.answer(i, 1), want[i]);
        }
        NullQueries all = sales();
        for (int output = 0; output < 3; output++) {
            due.feed(all, 4 + output, 1);
            all.summary(output, kind);
        }
        due.rows("summary " + kind + " of all", all, want[3], want[3], want[3]);
        NullQueries none = column();
        due.feed(none, 4, 1);
        due.feed(none, 5, 53);
        none.summary(0, kind);
        none.summary(1, kind);
        due.rows("summary " + kind + " of no members", none, want[4], want[4], N);
    }

    private static void numbersOfMembers() {
        due.says("Terms", "1 the number of members");
        summary(1, 2, 2, 2, 6, 0);
    }

    private static void numbersOfMembersNotNull() {
        due.says("Terms", "2 the number of members for which it is not NULL");
        summary(2, 2, 1, 0, 3, 0);
    }

    private static void sumsLeastAndGreatest() {
        due.says("Terms", "3 the sum (wrapping), 4 the least, 5 the greatest of its values that are not NULL, or NULL if there is none.");
        summary(3, 1, 5, N, 6, N);
        summary(4, -3, 5, N, -3, N);
        summary(5, 4, 5, N, 5, N);
    }

    private static void sum(int want, int... values) {
        NullQueries q = column(values);
        due.feed(q, 6, TIMES_GREAT);
        q.summary(2, 3);
        due.rows("a sum of great numbers", q, N, N, want);
    }

    private static void sumsWrap() {
        due.says("Terms", "3 the sum (wrapping)");
        sum(15 * GREAT, 8, 7);
        sum(Integer.MIN_VALUE, 8, 8);
        sum(Integer.MIN_VALUE, N, 8, N, 8);
        sum(Integer.MIN_VALUE, -8, -8);
        sum(15 * GREAT, -8, -8, -1);
        sum(15 * GREAT, 8, 8, -1);
        sum(0, 8, 8, 8, 8);
        sum(22 * GREAT, 9, 9, 9, 9, 9, 9);
        NullQueries q = column(9, 9, 9, 9, 9, 9);
        q.from(0, false);
        q.from(0, false);
        due.feed(q, 4, TIMES_GREAT);
        q.summary(0, 3);
        due.rows("a sum of 216", q, 216 * 9 * GREAT, N, N);
    }

    private static void leastAndGreatestOfGreatNumbers() {
        due.says("Terms", "4 the least, 5 the greatest of its values that are not NULL");
        NullQueries q = column(5, 8, N, -5, 1, -8);
        due.feed(q, 4, TIMES_NINES);
        due.feed(q, 5, TIMES_NINES);
        q.summary(0, 4);
        q.summary(1, 5);
        due.rows("the least and the greatest", q, -1937102445, 1937102445, N);
        due.is("least before", q.summary(0, 5), 4);
        due.feed(q, 0, 87, 81, 0, 58, 81, 0, 51);
        due.rows("the greatest of two", q, 387420489, 387420489, N);
        q.summary(0, 4);
        due.rows("the least of two", q, -1195603384, 387420489, N);
    }

    private static void summariesOfNothingButNull() {
        due.says("Terms", "or NULL if there is none.");
        for (int kind = 0; kind <= 5; kind++) {
            NullQueries q = column(N, N, N);
            due.feed(q, 7, 50);
            due.feed(q, 4, 0);
            q.summary(0, kind);
            due.rows("summary " + kind + " of NULLs", q, kind == 1 ? 3 : kind == 2 ? 0 : N, N, N);
            q.row(0, 0, 0, 0);
            due.rows("summary " + kind + " of NULLs and 0", q, kind == 0 ? N : kind == 1 ? 4 : kind == 2 ? 1 : 0, N, N);
        }
    }

    private static void emptyOutputs() {
        due.says("Terms", "of an empty output: summary 1 counts all the same, others are NULL.");
        for (int output = 0; output < 3; output++) {
            for (int kind = 0; kind <= 5; kind++) {
                NullQueries q = sales();
                q.summary(output, kind);
                due.feed(q, 3, 83, 50, 50);
                int[] want = {N, N, N};
                want[output] = kind == 1 ? 6 : N;
                due.rows("summary " + kind + " of the empty output " + output, q, want);
                due.feed(q, 0, 80, 50, 50);
                want[output] = kind == 1 ? 0 : N;
                due.rows("summary " + kind + " of the empty output " + output + ", no members", q, want);
            }
        }
        NullQueries q = column(4);
        due.rows("no output at all", q, N, N, N);
        due.is("digest", q.digest(), 0);
    }

    private static void distinctRows() {
        due.says("Terms", "DISTINCT: of rows of the answer with the same values only the first stays.");
        NullQueries q = sales();
        due.feed(q, 4, 0);
        q.distinct(true);
        due.rows("NULL is the same as NULL", q, 2, N, N, N, N, N, 1, N, N);
        due.feed(q, 6, 2);
        due.rows("two outputs", q, 2, N, 1, N, N, 1, 1, N, 2, 2, N, 2, 1, N, 1);
        due.feed(q, 5, 1);
        due.is("all differ", q.run(), 6);
        q.erase(4);
        q.erase(6);
        due.rows("output 1", q, N, 4, N, N, 5, N, N, N, N, N, -3, N);
        q.erase(5);
        due.rows("no outputs", q, N, N, N);
        due.feed(q, 0, 80, 50, 50);
        due.rows("no rows", q);
        q.erase(0);
        due.feed(q, 7, 0);
        q.summary(0, 1);
        due.rows("groups", q, 2, N, N);
        q.distinct(false);
        due.rows("not DISTINCT", q, 2, N, N, 2, N, N, 2, N, N);
    }

    private static void orderOfRows() {
        due.says("Terms", "NULL first, then from the least number on; equal ones stay in their order.");
        NullQueries q = sales();
        due.feed(q, 4, 0);
        due.feed(q, 5, 1);
        due.feed(q, 6, 2);
        due.feed(q, 9, 0);
        due.rows("equal ones in their order", q, N, 5, 1, N, N, 1, 1, N, 2, 1, N, 1, 2, 4, 1, 2, -3, 2);
        due.refeed(q, 9, 1);
        due.rows("NULL before a negative one", q, 1, N, 2, N, N, 1, 1, N, 1, 2, -3, 2, 2, 4, 1, N, 5, 1);
        due.refeed(q, 9, 72, 50, 74, 1, 41);
        due.rows("backwards", q, N, 5, 1, 2, 4, 1, 2, -3, 2, 1, N, 2, N, N, 1, 1, N, 1);
        for (int token : new int[] {70, 50}) {
            due.refeed(q, 9, token);
            due.rows("all equal", q, 2, 4, 1, N, 5, 1, 1, N, 2, 2, -3, 2, N, N, 1, 1, N, 1);
        }
        q.erase(9);
        due.rows("no ORDER", q, 2, 4, 1, N, 5, 1, 1, N, 2, 2, -3, 2, N, N, 1, 1, N, 1);
    }

    private static void orderOfGroups() {
        due.says("Terms", "ORDER, if it is not empty: rows are put in the order of its value for the combination, or the first member of the group");
        NullQueries q = sales();
        due.feed(q, 4, 0);
        q.summary(1, 1);
        due.feed(q, 7, 0);
        due.feed(q, 9, 72, 50, 2);
        due.rows("by column 2 backwards", q, 1, 2, N, 2, 2, N, N, 2, N);
        due.refeed(q, 9, 1);
        due.rows("by column 1", q, 1, 2, N, 2, 2, N, N, 2, N);
        due.refeed(q, 9, 0);
        due.rows("by the key", q, N, 2, N, 1, 2, N, 2, 2, N);
    }

    private static void orderOfGreatNumbers() {
        due.says("Terms", "then from the least number on");
        NullQueries q = column(-8, 8, N, 9, -9, 7);
        due.feed(q, 4, 0);
        due.feed(q, 9, TIMES_GREAT);
        due.rows("in the order of great ints", q, N, N, N, -9, N, N, -8, N, N, 7, N, N, 8, N, N, 9, N, N);
        due.refeed(q, 9, TIMES_NINES);
        // For 7, 8, 9 it wraps to -1583023873, -1195603384, -808182895.
        due.rows("in the order of ints that wrapped", q, N, N, N, 7, N, N, 8, N, N, 9, N, N, -9, N, N, -8, N, N);
    }

    private static void distinctAfterOrder() {
        due.says("Terms", "(With DISTINCT, rows are dropped after that.)");
        NullQueries q = new NullQueries();
        q.row(0, 1, 5, 0);
        q.row(0, 2, 3, 0);
        q.row(0, 1, 1, 0);
        q.from(0, false);
        due.feed(q, 4, 0);
        q.distinct(true);
        due.rows("no ORDER", q, 1, N, N, 2, N, N);
        due.feed(q, 9, 72, 50, 1);
        due.rows("the first in the order stays", q, 1, N, N, 2, N, N);
        q.row(0, 2, 9, 0);
        due.rows("the first in the order is the last of the table", q, 2, N, N, 1, N, N);
        due.refeed(q, 9, 1);
        due.rows("the first in the order stays", q, 1, N, N, 2, N, N);
        q.row(0, 2, N, 0);
        due.rows("the first in the order is NULL", q, 2, N, N, 1, N, N);
        NullQueries groups = sales();
        due.feed(groups, 7, 1);
        due.feed(groups, 4, 2);
        due.feed(groups, 9, 1);
        groups.distinct(true);
        due.rows("groups", groups, 2, N, N, 1, N, N);
    }
}
