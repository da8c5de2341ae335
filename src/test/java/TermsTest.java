import java.util.Arrays;

/** Sentence by sentence: the values of expressions and conditions, which promise 12 works with. */
public final class TermsTest {
    private static final Due due = new Due();
    private static final int N = Due.NULL;
    private static final int[] TRUE = {81, 50, 50};
    private static final int[] FALSE = {80, 50, 50};
    private static final int[] UNKNOWN = {81, 70, 50};

    public static void main(String[] args) {
        columns();
        numbers();
        productsWrap();
        comparisonsOfGreatNumbers();
        theNumberThatLooksLikeNull();
        sums();
        firstThatIsNotNull();
        nullIfEqual();
        choices();
        comparisons();
        isNull();
        same();
        not();
        isTrue();
        and();
        or();
        due.end();
    }

    private static NullQueries oneRow() {
        NullQueries q = new NullQueries();
        q.row(0, 3, N, -4);
        q.from(0, false);
        return q;
    }

    private static int[] joined(int[]... lists) {
        return Arrays.stream(lists).flatMapToInt(Arrays::stream).toArray();
    }

    private static void value(int want, int... tokens) {
        NullQueries q = oneRow();
        due.feed(q, 5, tokens);
        due.is("run", q.run(), 1);
        due.is("value of " + Arrays.toString(tokens), q.answer(0, 1), want);
    }

    /** 1 TRUE, 0 FALSE, -1 UNKNOWN. */
    private static void truth(int want, int... tokens) {
        String what = "truth of " + Arrays.toString(tokens);
        NullQueries q = oneRow();
        due.feed(q, 0, tokens);
        due.is(what + " as WHERE", q.run(), want == 1 ? 1 : 0);
        due.refeed(q, 0, joined(new int[] {84}, tokens));
        due.is(what + " as WHERE NOT", q.run(), want == 0 ? 1 : 0);
        q.erase(0);
        due.feed(q, 3, tokens);
        due.is(what + " as HAVING", q.run(), want == 1 ? 1 : 0);
    }

    private static void columns() {
        due.says("Terms", "column b of the row at hand of source a");
        value(3, 0);
        value(N, 1);
        value(-4, 2);
        NullQueries q = new NullQueries();
        for (int table = 0; table < 3; table++) {
            q.row(table, 3 * table, 3 * table + 1, 3 * table + 2);
            q.from(table, false);
        }
        for (int column = 0; column < 3; column++) {
            for (int source = 0; source < 3; source++) {
                due.refeed(q, 4 + source, 10 * source + column);
            }
            due.rows("columns " + column, q, column, 3 + column, 6 + column);
        }
    }

    private static void numbers() {
        due.says("Terms", "(41 .. 59) the number n, -9 .. 9");
        for (int n = -9; n <= 9; n++) {
            value(n, 50 + n);
        }
        value(N, 70);
    }

    /** The tokens of the product of numbers. */
    private static int[] product(int... numbers) {
        int[] tokens = new int[2 * numbers.length - 1];
        Arrays.fill(tokens, 73);
        for (int i = 0; i < numbers.length; i++) {
            tokens[numbers.length - 1 + i] = 50 + numbers[i];
        }
        return tokens;
    }

    /** Within twenty tokens no sum or difference leaves the ints, and no product of less than ten numbers. */
    private static void productsWrap() {
        due.says("Terms", "EXPRESSIONS have a number (an int, sums and products wrap) or NULL as their value:");
        value(387420489, product(9, 9, 9, 9, 9, 9, 9, 9, 9));
        value(-387420489, product(-9, 9, 9, 9, 9, 9, 9, 9, 9));
        value(387420498, joined(new int[] {71}, product(9, 9, 9, 9, 9, 9, 9, 9, 9), new int[] {59}));
        value(-387420498, joined(new int[] {72}, product(-9, 9, 9, 9, 9, 9, 9, 9, 9), new int[] {59}));
        // The greatest below 2 to the 31st, and the least above it.
        value(2142770112, product(7, 8, 8, 9, 9, 9, 9, 9, 9, 9));
        value(-2142770112, product(-7, 8, 8, 9, 9, 9, 9, 9, 9, 9));
        value(-2118184960, product(8, 8, 8, 8, 9, 9, 9, 9, 9, 9));
        value(2118184960, product(-8, 8, 8, 8, 9, 9, 9, 9, 9, 9));
        value(-808182895, product(9, 9, 9, 9, 9, 9, 9, 9, 9, 9));
        value(0, product(9, 9, 9, 9, 9, 9, 9, 9, 9, 0));
    }

    private static void comparisonsOfGreatNumbers() {
        due.says("Terms", "80 e f e < f 81 e f e = f");
        int[] great = product(9, 9, 9, 9, 9, 9, 9, 9);
        truth(1, joined(new int[] {80, 41}, great));
        truth(0, joined(new int[] {80}, great, new int[] {41}));
        int[] small = product(-9, 9, 9, 9, 9, 9, 9, 9);
        truth(1, joined(new int[] {80}, small, new int[] {59}));
        truth(0, joined(new int[] {80, 59}, small));
        truth(1, joined(new int[] {81, 73}, product(9, 9), product(9, 9), product(9, 9, 9, 9)));
    }

    private static void theNumberThatLooksLikeNull() {
        due.says("Terms", "or NULL as their value:");
        int[] thousand = {73, 58, 73, 55, 73, 55, 55};
        value(1000, thousand);
        value(1001, joined(new int[] {71, 51}, thousand));
        value(1000, joined(new int[] {74}, thousand, new int[] {53}));
        truth(0, joined(new int[] {82}, thousand));
        truth(0, joined(new int[] {83, 70}, thousand));
        truth(1, joined(new int[] {80, 59}, thousand));
        truth(1, joined(new int[] {81}, thousand, thousand));
        NullQueries q = new NullQueries();
        q.row(0, 1, 1, 1);
        q.row(0, N, 1, 1);
        q.from(0, false);
        // 1000 for the first row and NULL for the second.
        int[] either = joined(new int[] {73, 0}, thousand);
        due.feed(q, 4, either);
        q.distinct(true);
        due.rows("DISTINCT keeps the number 1000 beside NULL", q, 1000, N, N, 1000, N, N);
        due.is("digest of 1000 and NULL", q.digest(), 1000);
        q.summary(0, 2);
        due.rows("the number 1000 counts", q, 1, N, N);
        q.summary(0, 3);
        due.rows("the number 1000 sums", q, 1000, N, N);
        due.is("digest of 1000", q.digest(), 1000);
        q.summary(0, 0);
        due.feed(q, 7, either);
        due.refeed(q, 4, 0);
        due.rows("the number 1000 is a key of its own", q, 1, N, N, N, N, N);
        due.feed(q, 9, either);
        due.rows("NULL comes before the number 1000", q, N, N, N, 1, N, N);
    }

    private static void sums() {
        due.says("Terms", "the sum, difference, product; NULL if e or f is NULL");
        value(11, 71, 53, 58);
        value(-5, 72, 53, 58);
        value(24, 73, 53, 58);
        value(-12, 73, 0, 2);
        value(7, 72, 0, 2);
        for (int token = 71; token <= 73; token++) {
            value(N, token, 70, 58);
            value(N, token, 58, 70);
            value(N, token, 70, 70);
            value(N, token, 50, 1);
        }
        value(2, 72, 72, 59, 54, 53);
        value(8, 72, 59, 72, 54, 53);
    }

    private static void firstThatIsNotNull() {
        due.says("Terms", "e, or f if e is NULL");
        value(3, 74, 53, 54);
        value(4, 74, 70, 54);
        value(0, 74, 50, 54);
        value(3, 74, 53, 70);
        value(N, 74, 70, 70);
    }

    private static void nullIfEqual() {
        due.says("Terms", "NULL if e = f is TRUE, else e");
        value(N, 75, 53, 53);
        value(3, 75, 53, 54);
        value(3, 75, 53, 70);
        value(N, 75, 70, 53);
        value(N, 75, 70, 70);
        value(N, 75, 50, 50);
    }

    private static void choices() {
        due.says("Terms", "e if the condition c is TRUE, else f");
        value(1, joined(new int[] {76}, TRUE, new int[] {51, 52}));
        value(2, joined(new int[] {76}, FALSE, new int[] {51, 52}));
        value(2, joined(new int[] {76}, UNKNOWN, new int[] {51, 52}));
        value(N, joined(new int[] {76}, TRUE, new int[] {70, 52}));
        value(N, joined(new int[] {76}, FALSE, new int[] {51, 70}));
        value(N, joined(new int[] {76}, UNKNOWN, new int[] {51, 70}));
    }

    private static void comparisons() {
        due.says("Terms", "80 e f e < f 81 e f e = f (UNKNOWN if e or f is NULL)");
        for (int e = -9; e <= 9; e++) {
            for (int f = -9; f <= 9; f++) {
                truth(e < f ? 1 : 0, 80, 50 + e, 50 + f);
                truth(e == f ? 1 : 0, 81, 50 + e, 50 + f);
            }
        }
        for (int token = 80; token <= 81; token++) {
            truth(-1, token, 70, 54);
            truth(-1, token, 54, 70);
            truth(-1, token, 70, 70);
            truth(-1, token, 1, 1);
        }
    }

    private static void isNull() {
        due.says("Terms", "TRUE if e is NULL, else FALSE");
        truth(1, 82, 70);
        truth(1, 82, 1);
        truth(0, 82, 50);
        truth(0, 82, 0);
    }

    private static void same() {
        due.says("Terms", "TRUE if both are NULL, or both are the same number, else FALSE");
        truth(1, 83, 70, 70);
        truth(1, 83, 1, 1);
        truth(0, 83, 70, 50);
        truth(0, 83, 50, 70);
        truth(1, 83, 57, 57);
        truth(0, 83, 57, 58);
    }

    private static int[] of(int truth) {
        return truth == 1 ? TRUE : truth == 0 ? FALSE : UNKNOWN;
    }

    private static void not() {
        due.says("Terms", "FALSE for TRUE, TRUE for FALSE, else UNKNOWN");
        truth(0, joined(new int[] {84}, TRUE));
        truth(1, joined(new int[] {84}, FALSE));
        truth(-1, joined(new int[] {84}, UNKNOWN));
    }

    private static void isTrue() {
        due.says("Terms", "TRUE for TRUE, else FALSE");
        truth(1, joined(new int[] {85}, TRUE));
        truth(0, joined(new int[] {85}, FALSE));
        truth(0, joined(new int[] {85}, UNKNOWN));
    }

    private static void and() {
        due.says("Terms", "FALSE if one is FALSE; else TRUE if both are TRUE; else UNKNOWN");
        for (int c = -1; c <= 1; c++) {
            for (int d = -1; d <= 1; d++) {
                int want = c == 0 || d == 0 ? 0 : c == 1 && d == 1 ? 1 : -1;
                truth(want, joined(new int[] {86}, of(c), of(d)));
            }
        }
    }

    private static void or() {
        due.says("Terms", "TRUE if one is TRUE; else FALSE if both are FALSE; else UNKNOWN");
        for (int c = -1; c <= 1; c++) {
            for (int d = -1; d <= 1; d++) {
                int want = c == 1 || d == 1 ? 1 : c == 0 && d == 0 ? 0 : -1;
                truth(want, joined(new int[] {87}, of(c), of(d)));
            }
        }
    }
}
