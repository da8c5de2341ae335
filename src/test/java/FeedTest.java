import java.util.Arrays;

/** Sentence by sentence: what the terms say of parts and tokens, and promise 6. */
public final class FeedTest {
    private static final Due due = new Due();
    private static final String CANNOT_COME = "the token can't come there, by its form, as a condition or expression,"
            + " or because of the rules on subqueries and sources";

    public static void main(String[] args) {
        partsOfTwentyTokens();
        partsAreEmptyCompleteOrNeither();
        partsAreConditionsOrExpressions();
        noTokens();
        edgesOfTokens();
        noSubqueryWithinAnother();
        sourceThreeWithinSubqueriesOnly();
        subqueriesInTheExpressionOfAnother();
        sourcesOfOnConditions();
        noPart();
        completePart();
        twentyTokens();
        tokensByTheirForm();
        tokensAsConditionOrExpression();
        tokensByTheRulesOnSubqueries();
        sourcesThatAreNotThere();
        feedAnswersHowManyTokens();
        feedTestsInOrder();
        due.end();
    }

    private static boolean isExpressionStart(int token) {
        boolean column = token >= 0 && token < 30 && token % 10 <= 2;
        return column || (token >= 41 && token <= 59) || (token >= 70 && token <= 76);
    }

    private static boolean isSubquery(int token) {
        return (token >= 90 && token <= 92) || (token >= 100 && token <= 152 && token % 10 <= 2);
    }

    private static boolean isConditionStart(int token) {
        return (token >= 80 && token <= 87) || isSubquery(token);
    }

    private static boolean isOfSourceThree(int token) {
        return token >= 30 && token <= 32;
    }

    /** After these tokens in a part the next one has to be of this kind: c, e, or none at all. */
    private static void next(int part, char kind, boolean within, int... before) {
        for (int token = -5; token <= 160; token++) {
            NullQueries q = new NullQueries();
            Sample.feed(q, part, before);
            boolean taken = kind == 'c'
                    ? isConditionStart(token) && !(within && isSubquery(token))
                    : isExpressionStart(token) || (within && isOfSourceThree(token));
            taken &= kind != '-';
            int refused = kind == '-' ? Due.FULL : Due.BAD;
            String call = "feed(" + part + ", " + token + ") after " + Arrays.toString(before);
            due.is(call, q.feed(part, token), taken ? before.length + 1 : refused);
            due.is("erase after " + call, q.erase(part), taken ? before.length + 1 : before.length);
        }
        NullQueries q = new NullQueries();
        due.feed(q, part, before);
        due.is("state after " + Arrays.toString(before), q.state(part), kind == '-' ? 1 : before.length == 0 ? 0 : -1);
    }

    /** A token with parts of its own, of the kind that a part begins with. */
    private static int opening(int part) {
        return part <= 3 ? 84 : 71;
    }

    private static NullQueries twenty(int part) {
        NullQueries q = Sample.filled();
        q.erase(part);
        for (int i = 0; i < 20; i++) {
            q.feed(part, opening(part));
        }
        return q;
    }

    /** Twenty tokens that are one whole condition or expression. */
    private static int[] wholeOfTwenty(int part) {
        int[] end = part <= 3 ? new int[] {82, 70} : new int[] {82, 70, 51, 53};
        int[] tokens = new int[20];
        Arrays.fill(tokens, 84);
        tokens[0] = part <= 3 ? 84 : 76;
        System.arraycopy(end, 0, tokens, 20 - end.length, end.length);
        return tokens;
    }

    private static void partsOfTwentyTokens() {
        due.says("Terms", "It has ten PARTS, lists of at most 20 TOKENS each, in which a token comes before its own parts");
        NullQueries q = new NullQueries();
        q.row(0, 1, 1, 1);
        q.from(0, false);
        for (int part = 0; part < 10; part++) {
            due.feed(q, part, wholeOfTwenty(part));
            due.is("state of twenty tokens in part " + part, q.state(part), 1);
            due.is("a 21st token in part " + part, q.feed(part, opening(part)), Due.FULL);
        }
        // WHERE and HAVING are NOT, 18 times, of TRUE; the outputs choose by NOT, 15 times, of TRUE.
        due.rows("all parts of twenty tokens", q, 3, 3, 3);
        for (int part = 0; part < 10; part++) {
            due.is("erase(" + part + ")", q.erase(part), 20);
        }
    }

    private static void partsAreEmptyCompleteOrNeither() {
        due.says("Terms", "a part is EMPTY, or COMPLETE when it is one whole condition or expression, or neither.");
        for (int part = 0; part < 10; part++) {
            NullQueries q = new NullQueries();
            due.is("empty", q.state(part), 0);
            int[] tokens = part <= 3 ? new int[] {86, 82, 50, 80, 51, 0} : new int[] {76, 82, 1, 71, 50, 70, 59};
            for (int i = 0; i < tokens.length; i++) {
                due.is("feed", q.feed(part, tokens[i]), i + 1);
                due.is("state after " + (i + 1) + " tokens", q.state(part), i == tokens.length - 1 ? 1 : -1);
            }
        }
        for (int part = 4; part < 10; part++) {
            NullQueries q = new NullQueries();
            due.feed(q, part, 70);
            due.is("complete with one token", q.state(part), 1);
        }
    }

    private static void partsAreConditionsOrExpressions() {
        due.says("Terms", "Parts 4 to 9 are expressions.");
        for (int part = 0; part < 10; part++) {
            next(part, part <= 3 ? 'c' : 'e', false);
        }
    }

    /** Everything that is no token, at a place for a condition, for an expression, and within a subquery. */
    private static void noTokens() {
        due.says("Terms", "A token that is not of one of these forms is no token.");
        for (int token = -200; token <= 1100; token++) {
            if (!isExpressionStart(token) && !isConditionStart(token) && !isOfSourceThree(token)) {
                refusedEverywhere(token);
            }
        }
        refusedEverywhere(Integer.MIN_VALUE);
        refusedEverywhere(Integer.MAX_VALUE);
        // By their last bits these would be tokens.
        refusedEverywhere(256 + 50);
        refusedEverywhere(65536 + 82);
        refusedEverywhere(Integer.MIN_VALUE + 70);
    }

    private static void refusedEverywhere(int token) {
        NullQueries q = new NullQueries();
        due.feed(q, 1, 91);
        due.feed(q, 2, 91, 82);
        due.feed(q, 3, 140);
        due.feed(q, 6, 76);
        due.feed(q, 7, 71, 50);
        for (int part = 0; part < 10; part++) {
            due.is("feed(" + part + ", " + token + ")", q.feed(part, token), Due.BAD);
        }
        int[] counts = {0, 1, 2, 1, 0, 0, 1, 2, 0, 0};
        for (int part = 0; part < 10; part++) {
            due.is("erase(" + part + ") after the token " + token, q.erase(part), counts[part]);
        }
    }

    private static void edges(int part, int least, int greatest, int... before) {
        for (int token = least - 1; token <= greatest + 1; token++) {
            NullQueries q = new NullQueries();
            due.feed(q, part, before);
            boolean inside = token >= least && token <= greatest;
            due.is("feed(" + part + ", " + token + ")", q.feed(part, token), inside ? before.length + 1 : Due.BAD);
        }
    }

    private static void edgesOfTokens() {
        due.says("Terms", "(0 .. 2, 10 .. 12, 20 .. 22, 30 .. 32) column b of the row at hand of source a");
        for (int source = 0; source < 3; source++) {
            edges(4, 10 * source, 10 * source + 2);
            edges(0, 10 * source, 10 * source + 2, 91, 82);
        }
        edges(0, 30, 32, 91, 82);
        due.says("Terms", "(41 .. 59) the number n, -9 .. 9");
        edges(9, 41, 59);
        due.says("Terms", "70 NULL");
        edges(5, 70, 76);
        due.says("Terms", "CONDITIONS are TRUE, FALSE or UNKNOWN:");
        edges(3, 80, 87);
        due.says("Terms", "over the rows of table t (0 .. 2) for which c is TRUE");
        edges(2, 90, 92);
        due.says("Terms", "(100 .. 122) e IN");
        for (int table = 0; table < 3; table++) {
            edges(1, 100 + 10 * table, 102 + 10 * table);
        }
        due.says("Terms", "(130 .. 152) e < ALL");
        for (int table = 0; table < 3; table++) {
            edges(0, 130 + 10 * table, 132 + 10 * table);
        }
    }

    private static void noSubqueryWithinAnother() {
        due.says("Terms", "No subquery is within the c of another one");
        for (int token = 90; token <= 92; token++) {
            next(0, 'c', true, token);
            next(3, 'c', true, token, 84);
            next(3, 'c', true, token, 86, 82, 31);
            next(3, 'c', true, token, 81, 76);
            next(0, '-', false, token, 81, 30, 32);
        }
        for (int token = 100; token <= 152; token++) {
            if (isSubquery(token)) {
                next(0, 'c', true, token, 50);
                next(0, 'c', true, token, 71, 0, 10);
                next(0, 'c', true, token, 50, 87, 82, 30);
                next(0, '-', false, token, 50, 80, 30, 31);
            }
        }
        // After the c of a subquery another one may come.
        next(0, 'c', false, 86, 91, 82, 30);
        next(2, 'c', false, 87, 110, 0, 82, 30);
        next(4, 'c', false, 71, 76, 91, 82, 30, 50, 51, 76);
    }

    private static void sourceThreeWithinSubqueriesOnly() {
        due.says("Terms", "source 3 is named within the c of a subquery only (not in its e).");
        for (int token = 100; token <= 152; token++) {
            if (isSubquery(token)) {
                next(0, 'e', false, token);
                next(0, 'e', false, token, 71);
                next(0, 'c', false, token, 76);
                next(0, 'e', false, token, 76, 82);
                next(0, 'e', true, token, 50, 80);
                next(0, 'e', true, token, 50, 80, 30);
            }
        }
        for (int token = 90; token <= 92; token++) {
            next(0, 'e', true, token, 82);
            next(0, 'e', true, token, 81, 30);
            next(3, 'e', true, token, 81, 76, 82, 30);
        }
        // After the c what is around the subquery goes on as before it.
        next(0, 'e', false, 86, 91, 82, 30, 82);
        next(4, 'e', false, 76, 91, 82, 30);
        next(4, 'e', false, 76, 91, 82, 30, 50);
    }

    private static void subqueriesInTheExpressionOfAnother() {
        due.says("Terms", "No subquery is within the c of another one, and source 3 is named within the c of a subquery only (not in its e).");
        // The e of a subquery is not its c: a further subquery may stand there, with a c of its own.
        next(0, 'c', true, 100, 76, 90);
        next(0, 'e', false, 100, 76, 90, 82, 30);
        next(0, 'c', true, 100, 76, 90, 82, 30, 0, 1);
        next(0, '-', false, 100, 76, 90, 82, 30, 0, 1, 82, 31);
        next(4, 'e', false, 76, 141, 76, 120);
        next(4, 'c', true, 76, 141, 76, 120, 50);
        next(4, 'c', true, 76, 141, 76, 120, 50, 82, 30, 51, 52);
    }

    private static void sourcesOfOnConditions() {
        due.says("Terms", "The ON condition of a source may name the sources up to it; WHERE, outputs, keys, HAVING and ORDER all sources.");
        for (int part = 0; part < 10; part++) {
            for (int token = 0; token < 30; token++) {
                if (token % 10 > 2) {
                    continue;
                }
                int want = part == 1 && token >= 20 ? Due.BAD : 2;
                NullQueries q = new NullQueries();
                due.is("feed", q.feed(part, part <= 3 ? 82 : 71), 1);
                due.is("feed(" + part + ", " + token + ")", q.feed(part, token), want);
            }
        }
        NullQueries q = new NullQueries();
        due.feed(q, 1, 102, 11, 81);
        due.is("source 2 in part 1, in a subquery", q.feed(1, 21), Due.BAD);
        due.is("source 3 in part 1, in a subquery", q.feed(1, 31), 4);
        due.is("source 0 in part 1, in a subquery", q.feed(1, 2), 5);
        due.is("state", q.state(1), 1);
        due.feed(q, 2, 102, 21, 81, 31, 20);
    }

    private static void noPart() {
        due.says("feed", "Appends a token to a part. part is not 0 .. 9: BAD");
        for (int part : Due.outside(10)) {
            for (int token : new int[] {50, 82, -1}) {
                due.changesNothing("feed(" + part + ", " + token + ")", Sample::filled, q -> q.feed(part, token), Due.BAD);
            }
        }
    }

    private static void completePart() {
        due.says("feed", "it is complete: FULL");
        for (int part = 0; part < 10; part++) {
            int to = part;
            for (int token : new int[] {0, 50, 70, 71, 80, 82, 84, 91}) {
                due.changesNothing("feed(" + to + ", " + token + ")", () -> {
                    NullQueries q = Sample.filled();
                    q.erase(to);
                    Sample.feed(q, to, to <= 3 ? new int[] {82, 0} : new int[] {1});
                    return q;
                }, q -> q.feed(to, token), Due.FULL);
            }
            NullQueries q = new NullQueries();
            Sample.feed(q, to, to <= 3 ? new int[] {82, 0} : new int[] {1});
            q.erase(to);
            due.is("feed after erase", q.feed(to, opening(to)), 1);
        }
    }

    private static void twentyTokens() {
        due.says("feed", "it has 20 tokens: FULL");
        for (int part = 0; part < 10; part++) {
            int to = part;
            for (int token : new int[] {50, 71, 82, 84}) {
                due.changesNothing("feed(" + to + ", " + token + ")", () -> twenty(to), q -> q.feed(to, token), Due.FULL);
            }
            NullQueries q = new NullQueries();
            for (int i = 1; i <= 20; i++) {
                due.is("feed " + i, q.feed(to, opening(to)), i);
            }
            due.is("state", q.state(to), -1);
            due.is("erase", q.erase(to), 20);
            due.is("feed after erase", q.feed(to, opening(to)), 1);
            due.is("another part is not full", q.feed((to + 1) % 10, opening((to + 1) % 10)), 1);
        }
        // No twenty tokens lack more than these.
        NullQueries q = new NullQueries();
        for (int i = 1; i <= 20; i++) {
            due.is("feed(9, 76 or 80)", q.feed(9, i % 2 == 1 ? 76 : 80), i);
        }
        due.is("feed the 21st", q.feed(9, 50), Due.FULL);
        due.is("state", q.state(9), -1);
    }

    private static void tokensByTheirForm() {
        due.says("feed", CANNOT_COME);
        for (int token : new int[] {-1, 3, 9, 13, 19, 23, 29, 33, 40, 60, 69, 77, 79, 88, 89, 93, 99, 103, 109, 113, 119, 123, 129,
            133, 139, 143, 149, 153, 1000, Integer.MIN_VALUE, Integer.MAX_VALUE}) {
            for (int part : new int[] {0, 2, 3, 6, 8}) {
                due.changesNothing("feed(" + part + ", " + token + ")", Sample::filled, q -> q.feed(part, token), Due.BAD);
            }
        }
    }

    private static void tokensAsConditionOrExpression() {
        due.says("feed", CANNOT_COME);
        for (int token = 71; token <= 75; token++) {
            next(4, 'e', false, token);
            next(5, 'e', false, token, 50);
            next(6, '-', false, token, 50, 70);
        }
        next(7, 'c', false, 76);
        next(7, 'e', false, 76, 82, 50);
        next(8, 'e', false, 76, 82, 50, 41);
        next(9, '-', false, 76, 82, 50, 41, 59);
        for (int token : new int[] {80, 81, 83}) {
            next(0, 'e', false, token);
            next(2, 'e', false, token, 0);
            next(3, '-', false, token, 0, 22);
        }
        next(0, 'e', false, 82);
        next(0, '-', false, 82, 12);
        for (int token : new int[] {84, 85}) {
            next(3, 'c', false, token);
            next(3, '-', false, token, 82, 0);
        }
        for (int token : new int[] {86, 87}) {
            next(2, 'c', false, token);
            next(2, 'c', false, token, 82, 0);
            next(2, '-', false, token, 82, 0, 82, 1);
        }
        due.changesNothing("a condition as an output", Sample::filled, q -> q.feed(6, 82), Due.BAD);
        due.changesNothing("an expression as WHERE", Sample::filled, q -> q.feed(0, 50), Due.BAD);
    }

    private static void tokensByTheRulesOnSubqueries() {
        due.says("feed", CANNOT_COME);
        for (int token : new int[] {90, 92, 100, 122, 130, 152}) {
            due.changesNothing("a subquery within another", () -> {
                NullQueries q = Sample.filled();
                Sample.feed(q, 0, 86, 91, 84);
                return q;
            }, q -> q.feed(0, token), Due.BAD);
        }
        for (int token = 30; token <= 32; token++) {
            int own = token;
            due.changesNothing("source 3 in an output", Sample::filled, q -> q.feed(6, own), Due.BAD);
            due.changesNothing("source 3 in an e", () -> {
                NullQueries q = Sample.filled();
                Sample.feed(q, 0, 110);
                return q;
            }, q -> q.feed(0, own), Due.BAD);
        }
    }

    private static void sourcesThatAreNotThere() {
        due.says("feed", "(sources up to 3 may be named whether they are there or not; but in part 1 not source 2): BAD.");
        for (int sources = 0; sources <= 3; sources++) {
            NullQueries q = new NullQueries();
            for (int i = 0; i < sources; i++) {
                q.from(i, false);
            }
            for (int part = 0; part < 10; part++) {
                for (int source = 0; source <= 3; source++) {
                    int[] before = part <= 3 ? new int[] {91, 81} : new int[] {76, 91, 81};
                    due.feed(q, part, before);
                    int want = part == 1 && source == 2 ? Due.BAD : before.length + 1;
                    String what = "source " + source + " in part " + part + " with " + sources + " sources";
                    due.is(what, q.feed(part, 10 * source + source % 3), want);
                    q.erase(part);
                }
            }
        }
        for (int token = 20; token <= 22; token++) {
            int named = token;
            due.changesNothing("source 2 in part 1", () -> {
                NullQueries q = Sample.filled();
                q.from(0, false);
                q.erase(1);
                Sample.feed(q, 1, 81, 10);
                return q;
            }, q -> q.feed(1, named), Due.BAD);
        }
    }

    private static void feedAnswersHowManyTokens() {
        due.says("feed", "Else answers how many tokens the part has then.");
        for (int part = 0; part < 10; part++) {
            NullQueries q = new NullQueries();
            int[] tokens = wholeOfTwenty(part);
            for (int i = 0; i < 20; i++) {
                due.is("token " + i + " of part " + part, q.feed(part, tokens[i]), i + 1);
                due.is("a token that is refused", q.feed(part, -1), i == 19 ? Due.FULL : Due.BAD);
            }
        }
    }

    private static void feedTestsInOrder() {
        due.says("Terms", "In every method the tests are made in the order named.");
        for (int part = 0; part < 10; part++) {
            int to = part;
            for (int token : new int[] {-1, 77, part <= 3 ? 50 : 82, Integer.MAX_VALUE}) {
                due.changesNothing("no token for twenty", () -> twenty(to), q -> q.feed(to, token), Due.FULL);
                NullQueries q = new NullQueries();
                due.feed(q, to, to <= 3 ? new int[] {82, 50} : new int[] {50});
                due.is("no token for a complete part", q.feed(to, token), Due.FULL);
            }
        }
        NullQueries q = new NullQueries();
        due.is("no part and no token", q.feed(10, -1), Due.BAD);
    }
}
