/** Promises 5 to 11: from, feed, erase, summary, distinct, clear and state. */
public final class QueryPartsTest {
    private static final Due due = new Due();
    private static final int[] NO_PART = {-1, 10, Integer.MIN_VALUE, Integer.MAX_VALUE};

    public static void main(String[] args) {
        fromAnswersNumbers();
        feedOfFirstTokens();
        feedOfOperands();
        feedKeepsSubqueriesApart();
        feedKnowsSourcesOfPartOne();
        feedEndsAtTwentyTokens();
        feedTestsInOrder();
        eraseEmpties();
        summaryAnswersTheOneBefore();
        distinctAnswersTheOneBefore();
        clearKeepsTablesAndAnswer();
        stateTells();
        due.end();
    }

    private static void fromAnswersNumbers() {
        NullQueries q = new NullQueries();
        for (int table : new int[] {-1, 3, Integer.MIN_VALUE, Integer.MAX_VALUE}) {
            due.is("from(" + table + ")", q.from(table, true), Due.BAD);
        }
        due.is("from", q.from(2, true), 0);
        due.is("from", q.from(2, false), 1);
        due.is("from", q.from(0, true), 2);
        due.is("a wrong table comes before three sources", q.from(3, false), Due.BAD);
        due.is("from a fourth", q.from(1, false), Due.FULL);
        due.is("from a fourth", q.from(1, true), Due.FULL);
    }

    private static boolean isExpressionStart(int token) {
        boolean column = token >= 0 && token < 30 && token % 10 <= 2;
        return column || (token >= 41 && token <= 59) || (token >= 70 && token <= 76);
    }

    private static boolean isSubquery(int token) {
        return (token >= 90 && token <= 92) || (token >= 100 && token <= 152 && token % 10 <= 2);
    }

    private static boolean isConditionStart(int token) {
        return (token >= 80 && token <= 87) || isSubquery(token);
    }

    private static void feedOfFirstTokens() {
        for (int part = 0; part < 10; part++) {
            for (int token = -200; token <= 1100; token++) {
                NullQueries q = new NullQueries();
                boolean taken = part <= 3 ? isConditionStart(token) : isExpressionStart(token);
                due.is("first feed(" + part + ", " + token + ")", q.feed(part, token), taken ? 1 : Due.BAD);
                due.is("erase(" + part + ")", q.erase(part), taken ? 1 : 0);
            }
            NullQueries q = new NullQueries();
            due.is("feed", q.feed(part, Integer.MIN_VALUE), Due.BAD);
            due.is("feed", q.feed(part, Integer.MAX_VALUE), Due.BAD);
        }
    }

    /** After these tokens in a part the next one has to be of this kind: c, e, or none at all. */
    private static void next(int part, char kind, boolean within, int... before) {
        for (int token = -5; token <= 160; token++) {
            NullQueries q = new NullQueries();
            due.feed(q, part, before);
            boolean own = token >= 30 && token <= 32;
            boolean taken = kind == 'c'
                    ? isConditionStart(token) && !(within && isSubquery(token))
                    : isExpressionStart(token) || (within && own);
            int want = kind == '-' ? Due.FULL : taken ? before.length + 1 : Due.BAD;
            due.is("feed(" + part + ", " + token + ") after " + before.length, q.feed(part, token), want);
        }
        NullQueries q = new NullQueries();
        due.feed(q, part, before);
        due.is("state", q.state(part), kind == '-' ? 1 : -1);
    }

    private static void feedOfOperands() {
        for (int token = 71; token <= 75; token++) {
            next(4, 'e', false, token);
            next(5, 'e', false, token, 50);
            next(6, '-', false, token, 50, 70);
        }
        next(7, 'c', false, 76);
        next(7, 'e', false, 76, 82, 50);
        next(8, 'e', false, 76, 82, 50, 41);
        next(9, '-', false, 76, 82, 50, 41, 59);
        for (int token : new int[] {80, 81, 83}) {
            next(0, 'e', false, token);
            next(2, 'e', false, token, 0);
            next(3, '-', false, token, 0, 22);
        }
        next(0, 'e', false, 82);
        next(0, '-', false, 82, 12);
        for (int token : new int[] {84, 85}) {
            next(3, 'c', false, token);
            next(3, '-', false, token, 82, 0);
        }
        for (int token : new int[] {86, 87}) {
            next(2, 'c', false, token);
            next(2, 'c', false, token, 82, 0);
            next(2, '-', false, token, 82, 0, 82, 1);
        }
    }

    private static void feedKeepsSubqueriesApart() {
        for (int token = 90; token <= 92; token++) {
            next(0, 'c', true, token);
            next(0, 'e', true, token, 82);
            next(0, 'e', true, token, 81, 30);
            next(0, '-', false, token, 81, 30, 32);
            next(3, 'c', true, token, 84);
            next(3, 'c', true, token, 86, 82, 31);
            next(3, 'c', true, token, 81, 76);
            next(3, 'e', true, token, 81, 76, 82, 30);
        }
        for (int token = 100; token <= 152; token++) {
            if (!isSubquery(token)) {
                continue;
            }
            next(0, 'e', false, token);
            next(0, 'e', false, token, 71);
            next(0, 'c', false, token, 76);
            next(0, 'c', true, token, 50);
            next(0, 'c', true, token, 71, 0, 10);
            next(0, 'e', true, token, 50, 80);
            next(0, '-', false, token, 50, 80, 30, 31);
        }
        // After the c of a subquery what is around it goes on as before it.
        next(0, 'c', false, 86, 91, 82, 30);
        next(0, 'e', false, 86, 91, 82, 30, 82);
        next(4, 'e', false, 76, 91, 82, 30);
        // A subquery in the e of another one is not in its c.
        next(0, 'c', true, 100, 76, 90);
        next(0, 'e', false, 100, 76, 90, 82, 30);
        next(0, 'c', true, 100, 76, 90, 82, 30, 0, 1);
        next(0, '-', false, 100, 76, 90, 82, 30, 0, 1, 82, 31);
        next(4, 'e', false, 76, 141, 76, 120);
        next(4, 'c', true, 76, 141, 76, 120, 50);
        next(4, 'c', true, 76, 141, 76, 120, 50, 82, 30, 51, 52);
    }

    private static void feedKnowsSourcesOfPartOne() {
        for (int part = 0; part < 10; part++) {
            for (int column = 0; column < 3; column++) {
                for (int source = 0; source < 3; source++) {
                    NullQueries q = new NullQueries();
                    int before = 0;
                    if (part <= 3) {
                        before = q.feed(part, 82);
                    }
                    boolean refused = part == 1 && source == 2;
                    due.is("feed(" + part + ") of source " + source, q.feed(part, 10 * source + column), refused ? Due.BAD : before + 1);
                }
            }
        }
        NullQueries q = new NullQueries();
        due.feed(q, 1, 102, 11, 81);
        due.is("source 2 in part 1, in a subquery", q.feed(1, 21), Due.BAD);
        due.is("source 3 in part 1, in a subquery", q.feed(1, 31), 4);
        due.is("source 0 in part 1, in a subquery", q.feed(1, 2), 5);
        due.is("state", q.state(1), 1);
    }

    private static void feedEndsAtTwentyTokens() {
        NullQueries q = new NullQueries();
        for (int i = 1; i <= 20; i++) {
            due.is("feed(4, 76 or 84)", q.feed(4, i == 1 ? 76 : 84), i);
        }
        due.is("feed the 21st", q.feed(4, 84), Due.FULL);
        due.is("feed the 21st that is no token", q.feed(4, -1), Due.FULL);
        due.is("state", q.state(4), -1);
        due.is("erase", q.erase(4), 20);
        for (int i = 1; i <= 18; i++) {
            due.is("feed(0, 84)", q.feed(0, 84), i);
        }
        due.is("feed(0, 82)", q.feed(0, 82), 19);
        due.is("state", q.state(0), -1);
        due.is("the 20th token", q.feed(0, 70), 20);
        due.is("state", q.state(0), 1);
        due.is("feed", q.feed(0, 84), Due.FULL);
        q.row(0, 1, 1, 1);
        q.from(0, false);
        due.is("run with 20 tokens", q.run(), 1);
        // No twenty tokens leave more needs open than these.
        for (int i = 1; i <= 20; i++) {
            due.is("feed(9, 76 or 80)", q.feed(9, i % 2 == 1 ? 76 : 80), i);
        }
        due.is("feed the 21st", q.feed(9, 50), Due.FULL);
        due.is("state", q.state(9), -1);
    }

    private static void feedTestsInOrder() {
        NullQueries q = new NullQueries();
        for (int part : NO_PART) {
            due.is("feed to part " + part, q.feed(part, 50), Due.BAD);
            due.is("feed to part " + part, q.feed(part, -1), Due.BAD);
        }
        due.feed(q, 5, 50);
        due.is("complete comes before no token", q.feed(5, -1), Due.FULL);
        due.is("complete", q.feed(5, 50), Due.FULL);
        due.is("a refused token is not there", q.feed(6, 80), Due.BAD);
        due.is("state", q.state(6), 0);
        due.feed(q, 6, 71, 50);
        due.is("a refused token is not there", q.feed(6, 80), Due.BAD);
        due.is("state", q.state(6), -1);
        due.is("feed", q.feed(6, 50), 3);
    }

    private static void eraseEmpties() {
        NullQueries q = new NullQueries();
        for (int part : NO_PART) {
            due.is("erase(" + part + ")", q.erase(part), Due.BAD);
        }
        for (int part = 0; part < 10; part++) {
            due.is("feed", q.feed(part, part <= 3 ? 84 : 71), 1);
            due.is("feed", q.feed(part, part <= 3 ? 84 : 71), 2);
        }
        for (int part = 0; part < 10; part++) {
            due.is("state before", q.state(part), -1);
            due.is("erase", q.erase(part), 2);
            due.is("state after", q.state(part), 0);
            due.is("erase again", q.erase(part), 0);
            due.is("feed", q.feed(part, part <= 3 ? 82 : 50), 1);
        }
    }

    private static void summaryAnswersTheOneBefore() {
        NullQueries q = new NullQueries();
        for (int output : new int[] {-1, 3, Integer.MIN_VALUE, Integer.MAX_VALUE}) {
            due.is("summary of output " + output, q.summary(output, 1), Due.BAD);
        }
        for (int output = 0; output < 3; output++) {
            for (int kind = 1; kind <= 5; kind++) {
                due.is("summary", q.summary(output, kind), kind - 1);
                due.is("summary kind -1", q.summary(output, -1), Due.BAD);
                due.is("summary kind 6", q.summary(output, 6), Due.BAD);
                due.is("summary kind MAX", q.summary(output, Integer.MAX_VALUE), Due.BAD);
                due.is("summary kind MIN", q.summary(output, Integer.MIN_VALUE), Due.BAD);
            }
        }
        for (int output = 0; output < 3; output++) {
            due.is("summary", q.summary(output, 0), 5);
            due.is("summary", q.summary(output, 0), 0);
        }
    }

    private static void distinctAnswersTheOneBefore() {
        NullQueries q = new NullQueries();
        due.is("distinct", q.distinct(true), 0);
        due.is("distinct", q.distinct(true), 1);
        due.is("distinct", q.distinct(false), 1);
        due.is("distinct", q.distinct(false), 0);
        due.is("distinct", q.distinct(true), 0);
    }

    private static void clearKeepsTablesAndAnswer() {
        NullQueries q = new NullQueries();
        q.row(0, 1, 2, 3);
        q.row(1, 4, Due.NULL, 6);
        q.from(0, false);
        q.from(1, true);
        q.from(1, false);
        due.feed(q, 4, 0);
        due.feed(q, 5, 11);
        q.distinct(true);
        q.summary(2, 1);
        due.is("run", q.run(), 1);
        for (int part = 0; part < 10; part++) {
            q.erase(part);
            q.feed(part, part <= 3 ? 84 : 71);
            q.feed(part, part <= 3 ? 84 : 71);
        }
        q.summary(0, 3);
        q.summary(1, 4);
        q.summary(2, 5);
        q.clear();
        for (int part = 0; part < 10; part++) {
            due.is("state after clear", q.state(part), 0);
            due.is("erase after clear", q.erase(part), 0);
        }
        for (int output = 0; output < 3; output++) {
            due.is("summary after clear", q.summary(output, 0), 0);
        }
        due.is("distinct after clear", q.distinct(false), 0);
        due.is("size after clear", q.size(), 1);
        due.is("answer after clear", q.answer(0, 0), 1);
        due.is("answer after clear", q.answer(0, 1), Due.NULL);
        due.is("answer after clear", q.answer(0, 2), 1);
        due.is("digest after clear", q.digest(), 8);
        due.is("value after clear", q.value(0, 0, 2), 3);
        due.is("value after clear", q.value(1, 0, 1), Due.NULL);
        due.is("run after clear", q.run(), Due.BAD);
        due.is("size after clear", q.size(), 1);
        due.is("from after clear", q.from(1, false), 0);
        due.feed(q, 4, 2);
        due.rows("after clear", q, 6, Due.NULL, Due.NULL);
        due.is("from after clear", q.from(0, false), 1);
        due.is("from after clear", q.from(0, false), 2);
        due.is("from after clear", q.from(0, false), Due.FULL);
    }

    private static void stateTells() {
        NullQueries q = new NullQueries();
        for (int part : NO_PART) {
            due.is("state(" + part + ")", q.state(part), Due.BAD);
        }
        for (int part = 0; part < 10; part++) {
            due.is("state", q.state(part), 0);
            due.is("feed", q.feed(part, part <= 3 ? 82 : 74), 1);
            due.is("state", q.state(part), -1);
            due.is("feed", q.feed(part, 1), 2);
            due.is("state", q.state(part), part <= 3 ? 1 : -1);
            due.is("feed", q.feed(part, 1), part <= 3 ? Due.FULL : 3);
            due.is("state", q.state(part), 1);
            for (int later = part + 1; later < 10; later++) {
                due.is("state of another part", q.state(later), 0);
            }
        }
    }
}
