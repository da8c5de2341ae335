/** Queries over small tables with unknown values, in three-valued logic. */
public final class NullQueries {
    public static final int NULL = 1000;
    public static final int BAD = -2000;
    public static final int FULL = -2001;
    public static final int NONE = -2002;

    private static final int TABLES = 3;
    private static final int MOST_ROWS = 6;
    private static final int COLUMNS = 3;
    private static final int MOST_SOURCES = 3;
    private static final int PARTS = 10;
    private static final int MOST_TOKENS = 20;
    private static final int OUTPUTS = 3;
    private static final int GREATEST_SUMMARY = 5;
    private static final int MOST_COMBINATIONS = 216;

    private static final int ALL_CELLS = TABLES * MOST_ROWS * COLUMNS;
    private static final int ALL_TOKENS = PARTS * MOST_TOKENS;
    private static final int ALL_HANDS = MOST_SOURCES + 1;
    // A token takes one need away and brings at most three.
    private static final int MOST_NEEDS = 1 + 2 * MOST_TOKENS;
    private static final int ALL_COMBINED = MOST_COMBINATIONS * MOST_SOURCES;
    private static final int ALL_ANSWERS = MOST_COMBINATIONS * OUTPUTS;

    private static final int WHERE = 0;
    private static final int HAVING = 3;
    private static final int FIRST_OUTPUT = 4;
    private static final int FIRST_KEY = 7;
    private static final int SECOND_KEY = 8;
    private static final int ORDER = 9;
    // The parts from HAVING on are worked out once for every combination.
    private static final int ALL_VALUES = (PARTS - HAVING) * MOST_COMBINATIONS;

    // What a place in a part asks for; WITHIN is added inside the c of a subquery.
    private static final int EXPRESSION = 0;
    private static final int CONDITION = 1;
    private static final int WITHIN = 2;

    // In this order AND is the lesser, OR the greater, and NOT counts from the other end.
    private static final long FALSE = 0;
    private static final long UNKNOWN = 1;
    private static final long TRUE = 2;

    // Inside, NULL is below every int: an expression may well come to the number 1000,
    // and ORDER puts NULL first.
    private static final long NOTHING = -(1L << 40);

    private static final int NO_ROW = -1;
    private static final int SUBQUERY_SOURCE = 3;

    private final long[] cells = new long[ALL_CELLS];
    private final int[] rowCounts = new int[TABLES];

    private final int[] sourceTables = new int[MOST_SOURCES];
    private final boolean[] joinedLeft = new boolean[MOST_SOURCES];
    private int sourceCount;
    private final int[] tokens = new int[ALL_TOKENS];
    private final int[] tokenCounts = new int[PARTS];
    private final int[] summaries = new int[OUTPUTS];
    private boolean onlyDistinct;

    private final int[] needs = new int[MOST_NEEDS];
    private int needCount;

    // For each source the place in cells of its row at hand, or NO_ROW if all is NULL there.
    private final int[] hand = new int[ALL_HANDS];
    private final long[] stack = new long[MOST_TOKENS];
    private int top;

    private final int[] combined = new int[ALL_COMBINED];
    private final int[] joined = new int[ALL_COMBINED];
    private int combinationCount;
    private final long[] values = new long[ALL_VALUES];
    private final int[] groupOf = new int[MOST_COMBINATIONS];
    private final int[] firstMembers = new int[MOST_COMBINATIONS];
    private int groupCount;

    private final long[] answers = new long[ALL_ANSWERS];
    private final long[] orderValues = new long[MOST_COMBINATIONS];
    private int answerCount;

    public NullQueries() {
    }

    public int row(int table, int a, int b, int c) {
        if (!isTable(table)) {
            return BAD;
        }
        if (!isCellValue(a) || !isCellValue(b) || !isCellValue(c)) {
            return BAD;
        }
        int number = rowCounts[table];
        if (number >= MOST_ROWS) {
            return FULL;
        }
        int place = placeOf(table, number);
        cells[place] = a == NULL ? NOTHING : a;
        cells[place + 1] = b == NULL ? NOTHING : b;
        cells[place + 2] = c == NULL ? NOTHING : c;
        rowCounts[table] = number + 1;
        return number;
    }

    public int drop(int table, int i) {
        if (!isRow(table, i)) {
            return BAD;
        }
        int left = rowCounts[table] - 1;
        int end = placeOf(table, left);
        for (int place = placeOf(table, i); place < end; place++) {
            cells[place] = cells[place + COLUMNS];
        }
        rowCounts[table] = left;
        return left;
    }

    public int value(int table, int i, int column) {
        if (!isRow(table, i) || column < 0 || column >= COLUMNS) {
            return BAD;
        }
        int place = placeOf(table, i) + column;
        return shown(cells[place]);
    }

    public int from(int table, boolean left) {
        if (!isTable(table)) {
            return BAD;
        }
        if (sourceCount >= MOST_SOURCES) {
            return FULL;
        }
        int number = sourceCount;
        sourceTables[number] = table;
        joinedLeft[number] = left;
        sourceCount = number + 1;
        return number;
    }

    public int feed(int part, int token) {
        if (!isPart(part)) {
            return BAD;
        }
        int count = tokenCounts[part];
        if (openTerms(part) == 0 || count >= MOST_TOKENS) {
            return FULL;
        }
        int need = nextNeed(part);
        if (!fits(part, token, need)) {
            return BAD;
        }
        tokens[part * MOST_TOKENS + count] = token;
        tokenCounts[part] = count + 1;
        return count + 1;
    }

    public int erase(int part) {
        if (!isPart(part)) {
            return BAD;
        }
        int count = tokenCounts[part];
        tokenCounts[part] = 0;
        return count;
    }

    public int summary(int output, int kind) {
        if (!isOutput(output) || kind < 0 || kind > GREATEST_SUMMARY) {
            return BAD;
        }
        int before = summaries[output];
        summaries[output] = kind;
        return before;
    }

    public int distinct(boolean on) {
        int before = onlyDistinct ? 1 : 0;
        onlyDistinct = on;
        return before;
    }

    public void clear() {
        sourceCount = 0;
        onlyDistinct = false;
        for (int part = 0; part < PARTS; part++) {
            tokenCounts[part] = 0;
        }
        for (int output = 0; output < OUTPUTS; output++) {
            summaries[output] = 0;
        }
    }

    public int state(int part) {
        if (!isPart(part)) {
            return BAD;
        }
        if (tokenCounts[part] == 0) {
            return 0;
        }
        return openTerms(part) == 0 ? 1 : -1;
    }

    public int run() {
        if (sourceCount == 0 || hasUnfinishedPart() || namesMissingSource()) {
            return BAD;
        }
        startCombinations();
        for (int source = 0; source < sourceCount; source++) {
            join(source);
        }
        keepWhere();
        evaluateCombinations();
        formGroups();
        answerGroups();
        putInOrder();
        if (onlyDistinct) {
            dropRepeats();
        }
        return answerCount;
    }

    public int size() {
        return answerCount;
    }

    public int answer(int i, int output) {
        if (i < 0 || i >= answerCount || !isOutput(output)) {
            return NONE;
        }
        return shown(answers[i * OUTPUTS + output]);
    }

    public int digest() {
        int sum = 0;
        for (int i = 0; i < answerCount; i++) {
            int first = counted(answers[i * OUTPUTS]);
            int second = counted(answers[i * OUTPUTS + 1]);
            int third = counted(answers[i * OUTPUTS + 2]);
            sum += (i + 1) * (first + 3 * second + 7 * third);
        }
        return sum;
    }

    // ---- Arguments and what is shown of values

    private static boolean isTable(int table) {
        return table >= 0 && table < TABLES;
    }

    private static boolean isPart(int part) {
        return part >= 0 && part < PARTS;
    }

    private static boolean isOutput(int output) {
        return output >= 0 && output < OUTPUTS;
    }

    private static boolean isCellValue(int number) {
        return number == NULL || (number >= -9 && number <= 9);
    }

    private boolean isRow(int table, int i) {
        return isTable(table) && i >= 0 && i < rowCounts[table];
    }

    private static int placeOf(int table, int i) {
        return (table * MOST_ROWS + i) * COLUMNS;
    }

    private static int shown(long value) {
        return value == NOTHING ? NULL : (int) value;
    }

    private static int counted(long value) {
        return value == NOTHING ? 0 : (int) value;
    }

    // ---- The form of parts

    private static boolean isConditionPart(int part) {
        return part <= HAVING;
    }

    private static boolean isColumn(int token) {
        return token >= 0 && token <= 32 && token % 10 < COLUMNS;
    }

    private static boolean isSubquery(int token) {
        return (token >= 90 && token <= 92) || (token >= 100 && token <= 152 && token % 10 < COLUMNS);
    }

    /** How many parts of its own a token has. */
    private static int operands(int token) {
        if (token <= 70) {
            return 0;
        }
        if (token == 76) {
            return 3;
        }
        boolean single = token == 82 || token == 84 || token == 85 || (token >= 90 && token <= 92);
        return single ? 1 : 2;
    }

    /** How many terms a part still lacks; an empty part lacks one. */
    private int openTerms(int part) {
        int open = 1;
        for (int i = 0; i < tokenCounts[part]; i++) {
            open += operands(tokens[part * MOST_TOKENS + i]) - 1;
        }
        return open;
    }

    /** What the next token of a part that is not complete has to be. */
    private int nextNeed(int part) {
        needs[0] = isConditionPart(part) ? CONDITION : EXPRESSION;
        needCount = 1;
        for (int i = 0; i < tokenCounts[part]; i++) {
            needCount--;
            pushNeeds(tokens[part * MOST_TOKENS + i], needs[needCount] & WITHIN);
        }
        return needs[needCount - 1];
    }

    /** The needs of a token's own parts, the last one first, so that the first is on top. */
    private void pushNeeds(int token, int within) {
        if (isSubquery(token)) {
            pushNeed(CONDITION | WITHIN);
            if (token >= 100) {
                pushNeed(EXPRESSION);
            }
            return;
        }
        boolean ofConditions = token >= 84;
        int count = token == 76 ? 2 : operands(token);
        for (int i = 0; i < count; i++) {
            pushNeed((ofConditions ? CONDITION : EXPRESSION) | within);
        }
        if (token == 76) {
            pushNeed(CONDITION | within);
        }
    }

    private void pushNeed(int need) {
        needs[needCount] = need;
        needCount++;
    }

    private static boolean fits(int part, int token, int need) {
        boolean within = (need & WITHIN) != 0;
        if ((need & CONDITION) != 0) {
            return (token >= 80 && token <= 87) || (isSubquery(token) && !within);
        }
        if (isColumn(token)) {
            int source = token / 10;
            return source == SUBQUERY_SOURCE ? within : part != 1 || source <= 1;
        }
        return (token >= 41 && token <= 59) || (token >= 70 && token <= 76);
    }

    private boolean hasUnfinishedPart() {
        for (int part = 0; part < PARTS; part++) {
            if (tokenCounts[part] > 0 && openTerms(part) > 0) {
                return true;
            }
        }
        return false;
    }

    private boolean namesMissingSource() {
        for (int part = 0; part < PARTS; part++) {
            for (int i = 0; i < tokenCounts[part]; i++) {
                int token = tokens[part * MOST_TOKENS + i];
                int source = token / 10;
                if (isColumn(token) && source != SUBQUERY_SOURCE && source >= sourceCount) {
                    return true;
                }
            }
        }
        return false;
    }

    // ---- The value of a part for the rows at hand

    /** An empty condition holds always, and an empty expression is NULL. */
    private long evaluate(int part) {
        int count = tokenCounts[part];
        if (count == 0) {
            return isConditionPart(part) ? TRUE : NOTHING;
        }
        int start = part * MOST_TOKENS;
        top = 0;
        // From the end, so that the parts of a token are on the stack before it.
        for (int i = start + count - 1; i >= start; i--) {
            if (isSubquery(tokens[i])) {
                applySubquery(i);
            } else {
                apply(tokens[i]);
            }
        }
        return stack[0];
    }

    /**
     * The stack already has a value of c, worked out without a row of source 3 while nothing
     * told that a subquery is around it; it is thrown away and c taken anew for every row.
     */
    private void applySubquery(int position) {
        int token = tokens[position];
        boolean exists = token < 100;
        boolean lessThanAll = token >= 130;
        int start = exists ? position + 1 : endOfTerm(position + 1);
        int end = endOfTerm(start);
        long value = exists ? NOTHING : stack[top - 1];
        top -= exists ? 1 : 2;
        int table = exists ? token - 90 : (token - 100) / 10 % TABLES;
        long result = lessThanAll ? TRUE : FALSE;
        for (int i = 0; i < rowCounts[table]; i++) {
            int place = placeOf(table, i);
            hand[SUBQUERY_SOURCE] = place;
            for (int k = end - 1; k >= start; k--) {
                apply(tokens[k]);
            }
            top--;
            if (stack[top] != TRUE) {
                continue;
            }
            if (exists) {
                result = TRUE;
            } else {
                long compared = truth(lessThanAll ? 80 : 81, value, cells[place + token % 10]);
                result = truth(lessThanAll ? 86 : 87, result, compared);
            }
        }
        hand[SUBQUERY_SOURCE] = NO_ROW;
        stack[top] = result;
        top++;
    }

    /** The position after the last token of the term that begins at start. */
    private int endOfTerm(int start) {
        int open = 1;
        int position = start;
        while (open > 0 && position < ALL_TOKENS) {
            open += operands(tokens[position]) - 1;
            position++;
        }
        return position;
    }

    /** Puts the value of a token that is no subquery in the place of those of its parts. */
    private void apply(int token) {
        int count = operands(token);
        long first = count > 0 ? stack[top - 1] : NOTHING;
        long second = count > 1 ? stack[top - 2] : NOTHING;
        long third = count > 2 ? stack[top - 3] : NOTHING;
        long result;
        if (count == 0) {
            result = leaf(token);
        } else if (token == 76) {
            result = first == TRUE ? second : third;
        } else if (token < 80) {
            result = number(token, first, second);
        } else {
            result = truth(token, first, second);
        }
        top -= count;
        stack[top] = result;
        top++;
    }

    private long leaf(int token) {
        if (token == 70) {
            return NOTHING;
        }
        if (token > 40) {
            return token - 50;
        }
        int place = hand[token / 10];
        return place == NO_ROW ? NOTHING : cells[place + token % 10];
    }

    private static long number(int token, long e, long f) {
        if (token == 74) {
            return e == NOTHING ? f : e;
        }
        if (token == 75) {
            return e == f ? NOTHING : e;
        }
        if (e == NOTHING || f == NOTHING) {
            return NOTHING;
        }
        if (token == 71) {
            return (int) (e + f);
        }
        return token == 72 ? (int) (e - f) : (int) (e * f);
    }

    private static long truth(int token, long e, long f) {
        boolean unknown = e == NOTHING || f == NOTHING;
        switch (token) {
            case 80:
                return unknown ? UNKNOWN : e < f ? TRUE : FALSE;
            case 81:
                return unknown ? UNKNOWN : e == f ? TRUE : FALSE;
            case 82:
                return e == NOTHING ? TRUE : FALSE;
            case 83:
                return e == f ? TRUE : FALSE;
            case 84:
                return TRUE - e;
            case 85:
                return e == TRUE ? TRUE : FALSE;
            case 86:
                return e < f ? e : f;
            default:
                return e > f ? e : f;
        }
    }

    // ---- The combinations

    /** One combination without rows, which source 0 is then joined to like the others. */
    private void startCombinations() {
        emptyFirstCombination();
        hand[SUBQUERY_SOURCE] = NO_ROW;
        combinationCount = 1;
    }

    private void emptyFirstCombination() {
        for (int source = 0; source < MOST_SOURCES; source++) {
            combined[source] = NO_ROW;
        }
    }

    private void takeInHand(int combination) {
        for (int source = 0; source < MOST_SOURCES; source++) {
            hand[source] = combined[combination * MOST_SOURCES + source];
        }
    }

    private void join(int source) {
        int table = sourceTables[source];
        int made = 0;
        for (int i = 0; i < combinationCount; i++) {
            takeInHand(i);
            int before = made;
            for (int number = 0; number < rowCounts[table]; number++) {
                hand[source] = placeOf(table, number);
                // The part with the number of a joined source is its ON condition.
                if (source == 0 || evaluate(source) == TRUE) {
                    putJoined(made);
                    made++;
                }
            }
            if (made == before && source > 0 && joinedLeft[source]) {
                hand[source] = NO_ROW;
                putJoined(made);
                made++;
            }
        }
        for (int i = 0; i < made * MOST_SOURCES; i++) {
            combined[i] = joined[i];
        }
        combinationCount = made;
    }

    private void putJoined(int combination) {
        for (int source = 0; source < MOST_SOURCES; source++) {
            joined[combination * MOST_SOURCES + source] = hand[source];
        }
    }

    private void keepWhere() {
        int kept = 0;
        for (int i = 0; i < combinationCount; i++) {
            takeInHand(i);
            if (evaluate(WHERE) == TRUE) {
                for (int source = 0; source < MOST_SOURCES; source++) {
                    combined[kept * MOST_SOURCES + source] = hand[source];
                }
                kept++;
            }
        }
        combinationCount = kept;
    }

    private static int valuePlace(int part, int combination) {
        return (part - HAVING) * MOST_COMBINATIONS + combination;
    }

    /** If there is no combination, place 0 gets the values of a group without members. */
    private void evaluateCombinations() {
        int count = combinationCount;
        if (count == 0) {
            emptyFirstCombination();
            count = 1;
        }
        for (int i = 0; i < count; i++) {
            takeInHand(i);
            for (int part = HAVING; part < PARTS; part++) {
                int place = valuePlace(part, i);
                values[place] = evaluate(part);
            }
        }
    }

    // ---- Groups and the answer

    private boolean hasKey() {
        return tokenCounts[FIRST_KEY] > 0 || tokenCounts[SECOND_KEY] > 0;
    }

    private boolean isGrouped() {
        boolean summarised = summaries[0] != 0 || summaries[1] != 0 || summaries[2] != 0;
        return hasKey() || summarised || tokenCounts[HAVING] > 0;
    }

    /** Without grouping, every combination is a group of its own. */
    private void formGroups() {
        boolean grouped = isGrouped();
        groupCount = 0;
        for (int i = 0; i < combinationCount; i++) {
            int group = grouped ? groupLike(i) : groupCount;
            if (group == groupCount) {
                firstMembers[group] = i;
                groupCount++;
            }
            groupOf[i] = group;
        }
        if (combinationCount == 0 && grouped && !hasKey()) {
            firstMembers[0] = 0;
            groupCount = 1;
        }
    }

    /** The group with the keys of a combination, or the number of a new one. */
    private int groupLike(int combination) {
        int first = valuePlace(FIRST_KEY, combination);
        int second = valuePlace(SECOND_KEY, combination);
        for (int group = 0; group < groupCount; group++) {
            int otherFirst = valuePlace(FIRST_KEY, firstMembers[group]);
            int otherSecond = valuePlace(SECOND_KEY, firstMembers[group]);
            if (values[first] == values[otherFirst] && values[second] == values[otherSecond]) {
                return group;
            }
        }
        return groupCount;
    }

    private void answerGroups() {
        answerCount = 0;
        for (int group = 0; group < groupCount; group++) {
            int having = valuePlace(HAVING, firstMembers[group]);
            if (values[having] != TRUE) {
                continue;
            }
            for (int output = 0; output < OUTPUTS; output++) {
                answers[answerCount * OUTPUTS + output] = outputOf(group, output);
            }
            int order = valuePlace(ORDER, firstMembers[group]);
            orderValues[answerCount] = values[order];
            answerCount++;
        }
    }

    private long outputOf(int group, int output) {
        int kind = summaries[output];
        if (kind == 0) {
            int place = valuePlace(FIRST_OUTPUT + output, firstMembers[group]);
            return values[place];
        }
        if (kind == 1) {
            return membersOf(group);
        }
        if (tokenCounts[FIRST_OUTPUT + output] == 0) {
            return NOTHING;
        }
        return summaryOf(group, output, kind);
    }

    private int membersOf(int group) {
        int count = 0;
        for (int i = 0; i < combinationCount; i++) {
            if (groupOf[i] == group) {
                count++;
            }
        }
        return count;
    }

    private long summaryOf(int group, int output, int kind) {
        int count = 0;
        int sum = 0;
        long least = NOTHING;
        long greatest = NOTHING;
        for (int i = 0; i < combinationCount; i++) {
            int place = valuePlace(FIRST_OUTPUT + output, i);
            long value = values[place];
            if (groupOf[i] == group && value != NOTHING) {
                least = count == 0 || value < least ? value : least;
                greatest = count == 0 || value > greatest ? value : greatest;
                sum += (int) value;
                count++;
            }
        }
        if (kind == 2) {
            return count;
        }
        if (count == 0) {
            return NOTHING;
        }
        if (kind == 3) {
            return sum;
        }
        return kind == 4 ? least : greatest;
    }

    /** By insertion, which leaves equal rows in their order; without ORDER all are equal. */
    private void putInOrder() {
        for (int i = 1; i < answerCount; i++) {
            for (int k = i; k > 0 && orderValues[k] < orderValues[k - 1]; k--) {
                swapWithBefore(k);
            }
        }
    }

    private void swapWithBefore(int i) {
        long order = orderValues[i];
        orderValues[i] = orderValues[i - 1];
        orderValues[i - 1] = order;
        for (int place = i * OUTPUTS; place < (i + 1) * OUTPUTS; place++) {
            long value = answers[place];
            answers[place] = answers[place - OUTPUTS];
            answers[place - OUTPUTS] = value;
        }
    }

    private void dropRepeats() {
        int kept = 0;
        for (int i = 0; i < answerCount; i++) {
            if (!isAmongFirst(kept, i)) {
                for (int output = 0; output < OUTPUTS; output++) {
                    answers[kept * OUTPUTS + output] = answers[i * OUTPUTS + output];
                }
                kept++;
            }
        }
        answerCount = kept;
    }

    private boolean isAmongFirst(int count, int i) {
        for (int other = 0; other < count; other++) {
            int place = other * OUTPUTS;
            int own = i * OUTPUTS;
            if (answers[place] == answers[own] && answers[place + 1] == answers[own + 1]
                    && answers[place + 2] == answers[own + 2]) {
                return true;
            }
        }
        return false;
    }
}
