/** Promise 12: the values of expressions, conditions and subqueries. */
public final class TermsTest {
    private static final Due due = new Due();
    private static final int N = Due.NULL;
    private static final int[] TRUE = {81, 50, 50};
    private static final int[] FALSE = {80, 50, 50};
    private static final int[] UNKNOWN = {81, 70, 50};

    public static void main(String[] args) {
        columns();
        numbers();
        sums();
        bigNumbers();
        theNumberThatLooksLikeNull();
        choices();
        comparisons();
        connectives();
        exists();
        in();
        lessThanAll();
        subqueriesSeeTheRowsAround();
        subqueriesInExpressions();
        due.end();
    }

    /** Table 0 is the one source; tables 1 and 2 are for subqueries. */
    private static NullQueries tables() {
        NullQueries q = new NullQueries();
        q.row(0, 3, N, -4);
        q.row(1, 1, 5, 0);
        q.row(1, 2, N, 0);
        q.row(1, 3, 7, N);
        q.row(1, N, 3, 1);
        q.from(0, false);
        return q;
    }

    private static int valueOf(NullQueries q, int... tokens) {
        q.erase(4);
        due.feed(q, 4, tokens);
        due.is("run", q.run(), 1);
        return q.answer(0, 0);
    }

    private static void value(int want, int... tokens) {
        NullQueries q = tables();
        due.is("value of " + java.util.Arrays.toString(tokens), valueOf(q, tokens), want);
    }

    private static int[] joined(int[]... lists) {
        return java.util.Arrays.stream(lists).flatMapToInt(java.util.Arrays::stream).toArray();
    }

    /** 1 TRUE, 0 FALSE, -1 UNKNOWN. */
    private static void truth(int want, int... tokens) {
        NullQueries q = tables();
        String what = "truth of " + java.util.Arrays.toString(tokens);
        due.feed(q, 4, joined(new int[] {76}, tokens, new int[] {51, 50}));
        due.feed(q, 5, joined(new int[] {76, 84}, tokens, new int[] {51, 50}));
        due.is(what, q.run(), 1);
        due.is(what + " is TRUE", q.answer(0, 0), want == 1 ? 1 : 0);
        due.is(what + " is FALSE", q.answer(0, 1), want == 0 ? 1 : 0);
        due.feed(q, 0, tokens);
        due.is(what + " as WHERE", q.run(), want == 1 ? 1 : 0);
        q.erase(0);
        due.feed(q, 3, tokens);
        due.is(what + " as HAVING", q.run(), want == 1 ? 1 : 0);
    }

    private static void columns() {
        value(3, 0);
        value(N, 1);
        value(-4, 2);
        NullQueries q = new NullQueries();
        for (int table = 0; table < 3; table++) {
            q.row(table, 3 * table, 3 * table + 1, 3 * table + 2);
            q.from(table, false);
        }
        for (int source = 0; source < 3; source++) {
            for (int column = 0; column < 3; column++) {
                due.is("column", valueOf(q, 10 * source + column), 3 * source + column);
            }
        }
    }

    private static void numbers() {
        for (int n = -9; n <= 9; n++) {
            value(n, 50 + n);
        }
        value(N, 70);
    }

    private static void sums() {
        value(11, 71, 53, 58);
        value(-5, 72, 53, 58);
        value(24, 73, 53, 58);
        value(-12, 73, 0, 2);
        value(7, 72, 0, 2);
        for (int token = 71; token <= 73; token++) {
            value(N, token, 70, 58);
            value(N, token, 58, 70);
            value(N, token, 70, 70);
            value(N, token, 50, 1);
        }
        value(2, 72, 72, 59, 54, 53);
        value(8, 72, 59, 72, 54, 53);
    }

    /** The tokens of 9 to the given power. */
    private static int[] powerOfNine(int power) {
        int[] tokens = new int[2 * power - 1];
        for (int i = 0; i < tokens.length; i++) {
            tokens[i] = i < power - 1 ? 73 : 59;
        }
        return tokens;
    }

    private static void bigNumbers() {
        int power = 387420489;
        value(power, powerOfNine(9));
        value(power * 9, powerOfNine(10));
        NullQueries q = new NullQueries();
        for (int i = 4; i <= 9; i++) {
            q.row(0, i, 0, 0);
        }
        q.from(0, false);
        int[] times = joined(new int[] {73, 0}, powerOfNine(9));
        due.feed(q, 4, times);
        due.feed(q, 5, 0);
        due.feed(q, 9, times);
        // From 6 on the product is above the greatest int.
        due.rows("products that wrap", q,
                6 * power, 6, N, 7 * power, 7, N, 8 * power, 8, N, 9 * power, 9, N, 4 * power, 4, N, 5 * power, 5, N);
        due.is("a digest that wraps", q.digest(),
                power * (6 + 14 + 24 + 36 + 20 + 30) + 3 * (6 + 14 + 24 + 36 + 20 + 30));
        q.summary(0, 3);
        due.rows("a sum that wraps", q, 39 * power, 4, N);
        q.summary(0, 4);
        due.rows("the least", q, 6 * power, 4, N);
        q.summary(0, 5);
        due.rows("the greatest", q, 5 * power, 4, N);
    }

    /** 1000 as a number is not NULL. */
    private static void theNumberThatLooksLikeNull() {
        int[] thousand = {73, 58, 73, 55, 73, 55, 55};
        value(1000, thousand);
        value(1001, joined(new int[] {71, 51}, thousand));
        value(1000, joined(new int[] {74}, thousand, new int[] {53}));
        truth(0, joined(new int[] {82}, thousand));
        truth(0, joined(new int[] {83, 70}, thousand));
        truth(1, joined(new int[] {80, 59}, thousand));
        NullQueries q = new NullQueries();
        q.row(0, 1, 1, 1);
        q.row(0, N, 1, 1);
        q.from(0, false);
        // 1000 for the first row and NULL for the second.
        int[] either = joined(new int[] {73, 0}, thousand);
        due.feed(q, 4, either);
        q.distinct(true);
        due.rows("DISTINCT keeps the number 1000 beside NULL", q, 1000, N, N, 1000, N, N);
        due.is("digest of 1000 and NULL", q.digest(), 1000);
        q.summary(0, 2);
        due.rows("the number 1000 counts", q, 1, N, N);
        q.summary(0, 3);
        due.rows("the number 1000 sums", q, 1000, N, N);
        due.is("digest of 1000", q.digest(), 1000);
        q.summary(0, 0);
        due.feed(q, 7, either);
        q.erase(4);
        due.feed(q, 4, 0);
        due.rows("the number 1000 is a key of its own", q, 1, N, N, N, N, N);
        due.feed(q, 9, either);
        due.rows("NULL comes before the number 1000", q, N, N, N, 1, N, N);
    }

    private static void choices() {
        value(3, 74, 53, 54);
        value(4, 74, 70, 54);
        value(3, 74, 53, 70);
        value(N, 74, 70, 70);
        value(N, 75, 53, 53);
        value(3, 75, 53, 54);
        value(3, 75, 53, 70);
        value(N, 75, 70, 53);
        value(N, 75, 70, 70);
        value(1, joined(new int[] {76}, TRUE, new int[] {51, 52}));
        value(2, joined(new int[] {76}, FALSE, new int[] {51, 52}));
        value(2, joined(new int[] {76}, UNKNOWN, new int[] {51, 52}));
        value(N, joined(new int[] {76}, TRUE, new int[] {70, 52}));
        value(N, joined(new int[] {76}, FALSE, new int[] {51, 70}));
    }

    private static void comparisons() {
        truth(1, 80, 53, 54);
        truth(0, 80, 54, 54);
        truth(0, 80, 55, 54);
        truth(1, 80, 41, 50);
        truth(0, 81, 53, 54);
        truth(1, 81, 54, 54);
        truth(0, 81, 55, 54);
        for (int token = 80; token <= 81; token++) {
            truth(-1, token, 70, 54);
            truth(-1, token, 54, 70);
            truth(-1, token, 70, 70);
            truth(-1, token, 1, 1);
        }
        truth(1, 82, 70);
        truth(1, 82, 1);
        truth(0, 82, 50);
        truth(0, 82, 0);
        truth(1, 83, 70, 70);
        truth(0, 83, 70, 50);
        truth(0, 83, 50, 70);
        truth(1, 83, 57, 57);
        truth(0, 83, 57, 58);
    }

    private static void connectives() {
        int[][] of = {UNKNOWN, FALSE, TRUE};
        for (int first = -1; first <= 1; first++) {
            int[] c = of[first + 1];
            truth(first == -1 ? -1 : 1 - first, joined(new int[] {84}, c));
            truth(first == 1 ? 1 : 0, joined(new int[] {85}, c));
            for (int second = -1; second <= 1; second++) {
                int[] d = of[second + 1];
                int and = first == 0 || second == 0 ? 0 : first == 1 && second == 1 ? 1 : -1;
                int or = first == 1 || second == 1 ? 1 : first == 0 && second == 0 ? 0 : -1;
                truth(and, joined(new int[] {86}, c, d));
                truth(or, joined(new int[] {87}, c, d));
            }
        }
    }

    private static void exists() {
        truth(1, 91, 81, 30, 51);
        truth(1, 91, 81, 30, 53);
        truth(0, 91, 81, 30, 54);
        truth(0, 91, 81, 31, 70);
        truth(1, 91, 82, 31);
        truth(1, 90, 81, 32, 46);
        truth(0, 90, 81, 31, 46);
        truth(0, joined(new int[] {92}, TRUE));
    }

    private static void in() {
        int[] all = {83, 50, 50};
        truth(1, joined(new int[] {110, 53}, all));
        truth(1, joined(new int[] {111, 53}, all));
        truth(1, joined(new int[] {112, 51}, all));
        truth(-1, joined(new int[] {110, 54}, all));
        truth(-1, joined(new int[] {110, 70}, all));
        truth(0, joined(new int[] {110, 54}, new int[] {84, 82, 30}));
        truth(1, joined(new int[] {110, 52}, new int[] {84, 82, 30}));
        truth(0, joined(new int[] {110, 70}, FALSE));
        truth(0, joined(new int[] {110, 51}, UNKNOWN));
        truth(0, joined(new int[] {120, 70}, all));
        truth(1, joined(new int[] {100, 53}, all));
        truth(1, joined(new int[] {102, 46}, all));
        truth(-1, joined(new int[] {101, 53}, all));
        truth(0, joined(new int[] {100, 54}, all));
        // Rows for which c is UNKNOWN are not among them.
        truth(-1, 110, 52, 80, 31, 59);
        truth(1, 110, 53, 80, 31, 59);
    }

    private static void lessThanAll() {
        int[] all = {83, 50, 50};
        truth(-1, joined(new int[] {140, 50}, all));
        truth(0, joined(new int[] {140, 51}, all));
        truth(0, joined(new int[] {140, 52}, all));
        truth(1, joined(new int[] {140, 50}, new int[] {84, 82, 30}));
        truth(0, joined(new int[] {140, 51}, new int[] {84, 82, 30}));
        truth(-1, joined(new int[] {140, 70}, all));
        truth(1, joined(new int[] {140, 70}, FALSE));
        truth(1, joined(new int[] {140, 59}, UNKNOWN));
        truth(1, joined(new int[] {150, 70}, all));
        truth(1, joined(new int[] {130, 52}, all));
        truth(0, joined(new int[] {130, 53}, all));
        truth(1, joined(new int[] {132, 45}, all));
        truth(-1, joined(new int[] {131, 45}, all));
        truth(-1, joined(new int[] {141, 52}, all));
        truth(0, joined(new int[] {141, 53}, all));
        truth(1, joined(new int[] {141, 52}, new int[] {80, 31, 59}));
        truth(0, joined(new int[] {142, 51}, all));
        truth(-1, joined(new int[] {142, 49}, all));
    }

    private static void subqueriesSeeTheRowsAround() {
        NullQueries q = new NullQueries();
        for (int i = 1; i <= 4; i++) {
            q.row(0, i, i % 2, N);
        }
        q.row(2, 2, 1, 1);
        q.row(2, 3, 1, 1);
        q.row(2, N, 0, 1);
        q.from(0, false);
        due.feed(q, 4, 0);
        due.feed(q, 0, 92, 81, 30, 0);
        due.rows("EXISTS with the row around", q, 2, N, N, 3, N, N);
        q.erase(0);
        due.feed(q, 0, 120, 0, 81, 31, 1);
        due.rows("IN with the row around", q, 3, N, N);
        q.erase(0);
        due.feed(q, 0, 150, 0, 81, 31, 1);
        due.rows("< ALL with the row around", q, 1, N, N);
        q.erase(0);
        due.feed(q, 0, 84, 90, 80, 30, 0);
        due.rows("the least by a subquery over the same table", q, 1, N, N);
    }

    private static void subqueriesInExpressions() {
        // What stands behind a subquery, and before it, is not touched by it.
        value(9, 71, 76, 91, 81, 30, 51, 52, 53, 57);
        value(10, 71, 57, 76, 91, 81, 30, 54, 52, 53);
        truth(1, 86, 91, 82, 31, 81, 0, 53);
        truth(1, 86, 81, 0, 53, 91, 82, 31);
        // A subquery in the e of another one.
        truth(1, 110, 76, 91, 82, 30, 53, 54, 82, 32);
        truth(0, 110, 76, 91, 81, 30, 54, 53, 54, 82, 32);
        truth(1, 140, 76, 91, 82, 30, 52, 54, 82, 32);
        truth(0, 140, 76, 91, 81, 30, 54, 52, 54, 82, 32);
    }
}
