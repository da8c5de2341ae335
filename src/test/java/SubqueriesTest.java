import java.util.Arrays;

/** Sentence by sentence: the truth of subqueries, which promise 12 works with. */
public final class SubqueriesTest {
    private static final Due due = new Due();
    private static final int N = Due.NULL;
    private static final int[] ALWAYS = {83, 50, 50};
    private static final int[] NEVER = {80, 50, 50};
    private static final int[] UNKNOWN = {81, 70, 50};
    private static final String IN = "e IN: TRUE if for one of these rows e equals its column b (as by 81: TRUE);"
            + " else UNKNOWN if for one of them that is UNKNOWN; else FALSE";
    private static final String ALL = "e < ALL: FALSE if for one of these rows e is less than its column b is FALSE (as by 80);"
            + " else UNKNOWN if for one of them that is UNKNOWN; else TRUE";

    public static void main(String[] args) {
        overTheRowsOfEveryTable();
        overRowsForWhichCIsTrue();
        exists();
        existsInFullTables();
        in();
        inFullTables();
        lessThanAll();
        lessThanAllInFullTables();
        overNoRows();
        rowsAroundASubquery();
        theNearestSubqueryAround();
        besidesOtherTerms();
        due.end();
    }

    private static int[] joined(int[]... lists) {
        return Arrays.stream(lists).flatMapToInt(Arrays::stream).toArray();
    }

    private static int truthOf(NullQueries q, int... tokens) {
        due.refeed(q, 0, tokens);
        boolean holds = q.run() > 0;
        due.refeed(q, 0, joined(new int[] {84}, tokens));
        boolean holdsNot = q.run() > 0;
        q.erase(0);
        return holds ? 1 : holdsNot ? 0 : -1;
    }

    /** 1 TRUE, 0 FALSE, -1 UNKNOWN. */
    private static void truth(NullQueries q, int want, int... tokens) {
        due.is("truth of " + Arrays.toString(tokens), truthOf(q, tokens), want);
    }

    /** Table 0 is the source, with one row; table 1 has four. */
    private static NullQueries tables() {
        NullQueries q = new NullQueries();
        q.row(0, 3, N, -4);
        q.row(1, 1, 5, 0);
        q.row(1, 2, N, 0);
        q.row(1, 3, 7, N);
        q.row(1, N, 3, 1);
        q.from(0, false);
        return q;
    }

    /** Table 2 has these values in column 1, and in column 2 a 1 where c, 81 32 51, is TRUE. */
    private static NullQueries marked(int[] values, int[] marks) {
        NullQueries q = new NullQueries();
        q.row(0, 0, 0, 0);
        q.from(0, false);
        for (int i = 0; i < values.length; i++) {
            q.row(2, 8, values[i], marks[i]);
        }
        return q;
    }

    /** Six marks, 1 at one place; the others do not make c TRUE. */
    private static int[] markedAt(int place) {
        int[] marks = {0, N, 2, N, 0, N};
        marks[place] = 1;
        return marks;
    }

    private static int[] sixTimes(int value) {
        int[] values = new int[6];
        Arrays.fill(values, value);
        return values;
    }

    private static void overTheRowsOfEveryTable() {
        due.says("Terms", "over the rows of table t (0 .. 2) for which c is TRUE, each of them being the row at hand of source 3 for c, and b a column:");
        for (int table = 0; table < 3; table++) {
            for (int column = 0; column < 3; column++) {
                NullQueries q = new NullQueries();
                for (int t = 0; t < 3; t++) {
                    q.row(t, 3 * t - 4, 3 * t - 3, 3 * t - 2);
                }
                q.from(0, false);
                int number = 3 * table - 4 + column;
                truth(q, 1, 90 + table, 81, 30 + column, 50 + number);
                truth(q, 0, 90 + table, 81, 30 + column, 51 + number);
                int at = 10 * table + column;
                truth(q, 1, joined(new int[] {100 + at, 50 + number}, ALWAYS));
                truth(q, 0, joined(new int[] {100 + at, 51 + number}, ALWAYS));
                truth(q, 1, joined(new int[] {130 + at, 49 + number}, ALWAYS));
                truth(q, 0, joined(new int[] {130 + at, 50 + number}, ALWAYS));
            }
        }
    }

    private static void overRowsForWhichCIsTrue() {
        due.says("Terms", "for which c is TRUE");
        for (int[] c : new int[][] {NEVER, UNKNOWN}) {
            truth(tables(), 0, joined(new int[] {91}, c));
            truth(tables(), 0, joined(new int[] {110, 51}, c));
            truth(tables(), 0, joined(new int[] {110, 70}, c));
            truth(tables(), 1, joined(new int[] {140, 59}, c));
            truth(tables(), 1, joined(new int[] {140, 70}, c));
        }
        truth(tables(), -1, 110, 52, 80, 31, 59);
        truth(tables(), 1, 110, 53, 80, 31, 59);
        truth(tables(), 0, 110, 54, 84, 82, 30);
        truth(tables(), 1, 140, 50, 84, 82, 30);
        truth(tables(), 1, 141, 52, 80, 31, 59);
    }

    private static void exists() {
        due.says("Terms", "TRUE if there is such a row, else FALSE");
        truth(tables(), 1, 91, 81, 30, 51);
        truth(tables(), 1, 91, 81, 30, 53);
        truth(tables(), 0, 91, 81, 30, 54);
        truth(tables(), 0, 91, 81, 31, 70);
        truth(tables(), 1, 91, 82, 31);
        truth(tables(), 1, 90, 81, 32, 46);
        truth(tables(), 0, 90, 81, 31, 46);
    }

    private static void existsInFullTables() {
        due.says("Terms", "TRUE if there is such a row, else FALSE");
        for (int place = 0; place < 6; place++) {
            truth(marked(sixTimes(0), markedAt(place)), 1, 92, 81, 32, 51);
        }
        truth(marked(sixTimes(0), new int[] {0, N, 2, N, 0, N}), 0, 92, 81, 32, 51);
        truth(marked(sixTimes(0), sixTimes(1)), 1, 92, 81, 32, 51);
    }

    private static int inOf(int e, int... values) {
        boolean unknown = e == N && values.length > 0;
        for (int value : values) {
            if (e != N && e == value) {
                return 1;
            }
            unknown |= value == N;
        }
        return unknown ? -1 : 0;
    }

    private static int lessThanAllOf(int e, int... values) {
        boolean unknown = e == N && values.length > 0;
        for (int value : values) {
            if (e != N && value != N && e >= value) {
                return 0;
            }
            unknown |= value == N;
        }
        return unknown ? -1 : 1;
    }

    private static int numberToken(int value) {
        return value == N ? 70 : 50 + value;
    }

    /** IN and < ALL for every three rows out of four values. */
    private static void forThreeRows(boolean in) {
        int[] some = {N, 3, 4, 5};
        for (int i = 0; i < 64; i++) {
            int[] values = {some[i / 16], some[i / 4 % 4], some[i % 4]};
            for (int e : some) {
                int want = in ? inOf(e, values) : lessThanAllOf(e, values);
                NullQueries q = marked(values, new int[] {1, 1, 1});
                truth(q, want, (in ? 100 : 130) + 21, numberToken(e), 81, 32, 51);
            }
        }
    }

    /** IN and < ALL where only one of six rows is among them, and where only one differs. */
    private static void forSixRows(boolean in) {
        int token = (in ? 100 : 130) + 21;
        for (int place = 0; place < 6; place++) {
            for (int value : new int[] {N, 3, 4, 5}) {
                for (int e : new int[] {N, 4}) {
                    int[] values = {3, 4, 5, N, 4, 3};
                    values[place] = value;
                    int want = in ? inOf(e, value) : lessThanAllOf(e, value);
                    truth(marked(values, markedAt(place)), want, token, numberToken(e), 81, 32, 51);
                    values = sixTimes(9);
                    values[place] = value;
                    want = in ? inOf(e, 9, value) : lessThanAllOf(e, 9, value);
                    truth(marked(values, sixTimes(1)), want, token, numberToken(e), 81, 32, 51);
                }
            }
        }
    }

    private static void in() {
        due.says("Terms", IN);
        forThreeRows(true);
        truth(tables(), 1, joined(new int[] {112, 51}, ALWAYS));
        truth(tables(), 1, joined(new int[] {100, 53}, ALWAYS));
        truth(tables(), -1, joined(new int[] {101, 53}, ALWAYS));
    }

    private static void inFullTables() {
        due.says("Terms", IN);
        forSixRows(true);
    }

    private static void lessThanAll() {
        due.says("Terms", ALL);
        forThreeRows(false);
        truth(tables(), 0, joined(new int[] {142, 51}, ALWAYS));
        truth(tables(), -1, joined(new int[] {142, 49}, ALWAYS));
        truth(tables(), -1, joined(new int[] {131, 45}, ALWAYS));
    }

    private static void lessThanAllInFullTables() {
        due.says("Terms", ALL);
        forSixRows(false);
    }

    private static void overNoRows() {
        due.says("Terms", "each has at most six ROWS, numbered 0, 1, .. in their order, none at first.");
        for (int e : new int[] {50, 70, 0}) {
            truth(tables(), 0, joined(new int[] {120, e}, ALWAYS));
            truth(tables(), 1, joined(new int[] {150, e}, ALWAYS));
        }
        truth(tables(), 0, joined(new int[] {92}, ALWAYS));
        NullQueries q = tables();
        for (int left = 3; left >= 0; left--) {
            q.drop(1, 0);
            truth(q, left > 0 ? 1 : 0, joined(new int[] {91}, ALWAYS));
        }
    }

    private static void rowsAroundASubquery() {
        due.says("Terms", "each of them being the row at hand of source 3 for c");
        NullQueries q = new NullQueries();
        for (int i = 1; i <= 4; i++) {
            q.row(0, i, i % 2, N);
        }
        q.row(2, 2, 1, 1);
        q.row(2, 3, 1, 1);
        q.row(2, N, 0, 1);
        q.from(0, false);
        due.feed(q, 4, 0);
        due.feed(q, 0, 92, 81, 30, 0);
        due.rows("EXISTS with the row around", q, 2, N, N, 3, N, N);
        due.refeed(q, 0, 120, 0, 81, 31, 1);
        due.rows("IN with the row around", q, 3, N, N);
        due.refeed(q, 0, 150, 0, 81, 31, 1);
        due.rows("< ALL with the row around", q, 1, N, N);
        due.refeed(q, 0, 84, 90, 80, 30, 0);
        due.rows("the least by a subquery over the same table", q, 1, N, N);
    }

    private static void theNearestSubqueryAround() {
        due.says("Terms", "of a = 3, of the row at hand of the nearest subquery around");
        // The one in the e goes over table 1, the one around over table 0.
        truth(tables(), 1, 100, 76, 91, 81, 30, 52, 53, 54, 81, 32, 46);
        truth(tables(), 0, 100, 76, 91, 81, 30, 54, 53, 54, 81, 32, 46);
        truth(tables(), 0, 100, 76, 91, 81, 30, 52, 53, 54, 81, 32, 45);
        truth(tables(), 1, 110, 76, 91, 82, 30, 53, 54, 82, 32);
        truth(tables(), 0, 110, 76, 91, 81, 30, 54, 53, 54, 82, 32);
        truth(tables(), 1, 140, 76, 91, 82, 30, 52, 54, 82, 32);
        truth(tables(), 0, 140, 76, 91, 81, 30, 54, 52, 54, 82, 32);
        // One after the other, over other tables.
        truth(tables(), 1, 86, 91, 81, 31, 57, 90, 81, 30, 53);
        truth(tables(), 0, 86, 91, 81, 31, 57, 90, 81, 30, 52);
        truth(tables(), 0, 86, 91, 81, 31, 58, 90, 81, 30, 53);
    }

    private static void besidesOtherTerms() {
        due.says("Terms", "in which a token comes before its own parts");
        NullQueries q = tables();
        due.feed(q, 4, 71, 76, 91, 81, 30, 51, 52, 53, 57);
        due.feed(q, 5, 71, 57, 76, 91, 81, 30, 54, 52, 53);
        due.feed(q, 6, 72, 59, 76, 86, 91, 82, 31, 110, 0, 82, 32, 54, 55);
        due.rows("subqueries before and behind other terms", q, 9, 10, 5);
        truth(tables(), 1, 86, 91, 82, 31, 81, 0, 53);
        truth(tables(), 1, 86, 81, 0, 53, 91, 82, 31);
    }
}
