import java.util.ArrayList;
import java.util.Arrays;
import java.util.Comparator;
import java.util.LinkedHashMap;
import java.util.List;
import java.util.Map;

/**
 * The document once more, with the Java library and recursion: what NullQueries answers is
 * compared with it. A value is an Integer, null for NULL; a truth a Boolean, null for UNKNOWN.
 */
final class Model {
    private enum Form { BAD, OPEN, COMPLETE }

    private final List<List<Integer[]>> tables = List.of(new ArrayList<>(), new ArrayList<>(), new ArrayList<>());
    private final List<Integer> sources = new ArrayList<>();
    private final List<Boolean> lefts = new ArrayList<>();
    private final List<List<Integer>> parts = new ArrayList<>();
    private final int[] kinds = new int[3];
    private boolean distinct;
    private List<List<Integer>> answer = new ArrayList<>();

    private List<Integer> reading;
    private int at;
    private Integer[] inner;

    Model() {
        for (int part = 0; part < 10; part++) {
            parts.add(new ArrayList<>());
        }
    }

    private static boolean outside(int n, int count) {
        return n < 0 || n >= count;
    }

    int row(int table, int... abc) {
        if (outside(table, 3) || Arrays.stream(abc).anyMatch(n -> n != 1000 && Math.abs((long) n) > 9)) {
            return -2000;
        }
        if (tables.get(table).size() == 6) {
            return -2001;
        }
        tables.get(table).add(Arrays.stream(abc).mapToObj(n -> n == 1000 ? null : (Integer) n).toArray(Integer[]::new));
        return tables.get(table).size() - 1;
    }

    int drop(int table, int i) {
        if (outside(table, 3) || outside(i, tables.get(table).size())) {
            return -2000;
        }
        tables.get(table).remove(i);
        return tables.get(table).size();
    }

    int value(int table, int i, int column) {
        if (outside(table, 3) || outside(i, tables.get(table).size()) || outside(column, 3)) {
            return -2000;
        }
        Integer value = tables.get(table).get(i)[column];
        return value == null ? 1000 : value;
    }

    int from(int table, boolean left) {
        if (outside(table, 3)) {
            return -2000;
        }
        if (sources.size() == 3) {
            return -2001;
        }
        sources.add(table);
        lefts.add(left);
        return sources.size() - 1;
    }

    int feed(int part, int token) {
        if (outside(part, 10)) {
            return -2000;
        }
        List<Integer> tokens = parts.get(part);
        if (formOf(part, tokens) == Form.COMPLETE || tokens.size() == 20) {
            return -2001;
        }
        List<Integer> more = new ArrayList<>(tokens);
        more.add(token);
        if (formOf(part, more) == Form.BAD) {
            return -2000;
        }
        parts.set(part, more);
        return more.size();
    }

    int erase(int part) {
        if (outside(part, 10)) {
            return -2000;
        }
        int had = parts.get(part).size();
        parts.set(part, new ArrayList<>());
        return had;
    }

    int summary(int output, int kind) {
        if (outside(output, 3) || outside(kind, 6)) {
            return -2000;
        }
        int before = kinds[output];
        kinds[output] = kind;
        return before;
    }

    int distinct(boolean on) {
        int before = distinct ? 1 : 0;
        distinct = on;
        return before;
    }

    void clear() {
        sources.clear();
        lefts.clear();
        parts.replaceAll(part -> new ArrayList<>());
        Arrays.fill(kinds, 0);
        distinct = false;
    }

    int state(int part) {
        if (outside(part, 10)) {
            return -2000;
        }
        if (parts.get(part).isEmpty()) {
            return 0;
        }
        return formOf(part, parts.get(part)) == Form.COMPLETE ? 1 : -1;
    }

    int size() {
        return answer.size();
    }

    int answer(int i, int output) {
        if (outside(i, answer.size()) || outside(output, 3)) {
            return -2002;
        }
        Integer value = answer.get(i).get(output);
        return value == null ? 1000 : value;
    }

    int digest() {
        int[] weights = {1, 3, 7};
        int sum = 0;
        for (int i = 0; i < answer.size(); i++) {
            for (int output = 0; output < 3; output++) {
                Integer value = answer.get(i).get(output);
                sum += value == null ? 0 : (i + 1) * weights[output] * value;
            }
        }
        return sum;
    }

    // ---- Form

    private Form formOf(int part, List<Integer> tokens) {
        reading = tokens;
        at = 0;
        return part <= 3 ? readCondition(part, false) : readExpression(part, false);
    }

    private static boolean isColumn(int token, int lowest) {
        return token >= lowest && token <= lowest + 2;
    }

    /** The form of parts one after the other, 'c' or 'e' each. */
    private Form readAll(int part, boolean within, String kinds) {
        for (char kind : kinds.toCharArray()) {
            Form form = kind == 'c' ? readCondition(part, within) : readExpression(part, within);
            if (form != Form.COMPLETE) {
                return form;
            }
        }
        return Form.COMPLETE;
    }

    private Form readExpression(int part, boolean within) {
        if (at == reading.size()) {
            return Form.OPEN;
        }
        int token = reading.get(at++);
        boolean plain = isColumn(token, 0) || isColumn(token, 10) || (isColumn(token, 20) && part != 1)
                || (isColumn(token, 30) && within) || (token >= 41 && token <= 59) || token == 70;
        if (plain) {
            return Form.COMPLETE;
        }
        switch (token) {
            case 71: case 72: case 73: case 74: case 75:
                return readAll(part, within, "ee");
            case 76:
                return readAll(part, within, "cee");
            default:
                return Form.BAD;
        }
    }

    private static boolean isListQuery(int token) {
        for (int table = 0; table < 3; table++) {
            if (isColumn(token, 100 + 10 * table) || isColumn(token, 130 + 10 * table)) {
                return true;
            }
        }
        return false;
    }

    private Form readCondition(int part, boolean within) {
        if (at == reading.size()) {
            return Form.OPEN;
        }
        int token = reading.get(at++);
        if (isColumn(token, 90)) {
            return within ? Form.BAD : readAll(part, true, "c");
        }
        if (isListQuery(token)) {
            if (within) {
                return Form.BAD;
            }
            Form form = readExpression(part, false);
            return form == Form.COMPLETE ? readCondition(part, true) : form;
        }
        switch (token) {
            case 80: case 81: case 83:
                return readAll(part, within, "ee");
            case 82:
                return readAll(part, within, "e");
            case 84: case 85:
                return readAll(part, within, "c");
            case 86: case 87:
                return readAll(part, within, "cc");
            default:
                return Form.BAD;
        }
    }

    // ---- Values

    private Integer expression(int part, Integer[][] rows) {
        reading = parts.get(part);
        at = 0;
        return reading.isEmpty() ? null : takeExpression(rows);
    }

    private boolean holds(int part, Integer[][] rows) {
        reading = parts.get(part);
        at = 0;
        return reading.isEmpty() || Boolean.TRUE.equals(takeCondition(rows));
    }

    private Integer takeExpression(Integer[][] rows) {
        int token = reading.get(at++);
        if (token < 40) {
            Integer[] row = token >= 30 ? inner : rows[token / 10];
            return row == null ? null : row[token % 10];
        }
        if (token < 60) {
            return token - 50;
        }
        if (token == 70) {
            return null;
        }
        if (token == 76) {
            Boolean c = takeCondition(rows);
            Integer e = takeExpression(rows);
            Integer f = takeExpression(rows);
            return Boolean.TRUE.equals(c) ? e : f;
        }
        Integer e = takeExpression(rows);
        Integer f = takeExpression(rows);
        switch (token) {
            case 71:
                return e == null || f == null ? null : (Integer) (e + f);
            case 72:
                return e == null || f == null ? null : (Integer) (e - f);
            case 73:
                return e == null || f == null ? null : (Integer) (e * f);
            case 74:
                return e == null ? f : e;
            default:
                return Boolean.TRUE.equals(equal(e, f)) ? null : e;
        }
    }

    private static Boolean equal(Integer e, Integer f) {
        return e == null || f == null ? null : (Boolean) (e.intValue() == f.intValue());
    }

    private static Boolean less(Integer e, Integer f) {
        return e == null || f == null ? null : (Boolean) (e.intValue() < f.intValue());
    }

    /** The first of some truths that is among these, as in the document's "else .. if one of them". */
    private static Boolean verdict(List<Boolean> truths, boolean one) {
        if (truths.contains(one)) {
            return one;
        }
        return truths.contains(null) ? null : (Boolean) !one;
    }

    private Boolean takeCondition(Integer[][] rows) {
        int token = reading.get(at++);
        if (token >= 90) {
            return takeSubquery(token, rows);
        }
        if (token >= 84) {
            Boolean c = takeCondition(rows);
            if (token == 84) {
                return c == null ? null : (Boolean) !c;
            }
            if (token == 85) {
                return Boolean.TRUE.equals(c);
            }
            Boolean d = takeCondition(rows);
            return verdict(Arrays.asList(c, d), token == 87);
        }
        Integer e = takeExpression(rows);
        if (token == 82) {
            return e == null;
        }
        Integer f = takeExpression(rows);
        if (token == 83) {
            return e == null ? f == null : e.equals(f);
        }
        return token == 80 ? less(e, f) : equal(e, f);
    }

    private Boolean takeSubquery(int token, Integer[][] rows) {
        Integer e = token >= 100 ? takeExpression(rows) : null;
        int table = token < 100 ? token - 90 : token < 130 ? (token - 100) / 10 : (token - 130) / 10;
        int start = at;
        List<Boolean> truths = new ArrayList<>();
        inner = null;
        takeCondition(rows);
        int end = at;
        for (Integer[] row : tables.get(table)) {
            at = start;
            inner = row;
            if (Boolean.TRUE.equals(takeCondition(rows))) {
                Integer column = row[token % 10];
                truths.add(token < 100 ? (Boolean) true : token < 130 ? equal(e, column) : less(e, column));
            }
        }
        inner = null;
        at = end;
        return verdict(truths, token < 130);
    }

    // ---- The answer

    private boolean canRun() {
        if (sources.isEmpty()) {
            return false;
        }
        for (int part = 0; part < 10; part++) {
            if (state(part) == -1) {
                return false;
            }
            for (int token : parts.get(part)) {
                if ((isColumn(token, 0) || isColumn(token, 10) || isColumn(token, 20)) && token / 10 >= sources.size()) {
                    return false;
                }
            }
        }
        return true;
    }

    private void combine(Integer[][] rows, int source, List<Integer[][]> into) {
        if (source == sources.size()) {
            if (holds(0, rows)) {
                into.add(rows);
            }
            return;
        }
        boolean found = false;
        for (Integer[] row : tables.get(sources.get(source))) {
            Integer[][] more = rows.clone();
            more[source] = row;
            if (source == 0 || holds(source, more)) {
                found = true;
                combine(more, source + 1, into);
            }
        }
        if (!found && source > 0 && lefts.get(source)) {
            combine(rows, source + 1, into);
        }
    }

    private List<List<Integer[][]>> groups(List<Integer[][]> combinations) {
        List<List<Integer[][]>> groups = new ArrayList<>();
        boolean keys = !parts.get(7).isEmpty() || !parts.get(8).isEmpty();
        boolean grouped = keys || !parts.get(3).isEmpty() || Arrays.stream(kinds).anyMatch(kind -> kind != 0);
        if (!grouped) {
            combinations.forEach(rows -> groups.add(List.of(new Integer[][][] {rows})));
        } else if (!keys) {
            groups.add(combinations);
        } else {
            Map<List<Integer>, List<Integer[][]>> byKeys = new LinkedHashMap<>();
            for (Integer[][] rows : combinations) {
                List<Integer> key = Arrays.asList(expression(7, rows), expression(8, rows));
                byKeys.computeIfAbsent(key, k -> new ArrayList<>()).add(rows);
            }
            groups.addAll(byKeys.values());
        }
        return groups;
    }

    private Integer output(int output, List<Integer[][]> members, Integer[][] first) {
        int part = 4 + output;
        int kind = kinds[output];
        if (kind == 1) {
            return members.size();
        }
        if (parts.get(part).isEmpty()) {
            return null;
        }
        if (kind == 0) {
            return expression(part, first);
        }
        List<Integer> values = new ArrayList<>();
        for (Integer[][] rows : members) {
            Integer value = expression(part, rows);
            if (value != null) {
                values.add(value);
            }
        }
        if (kind == 2) {
            return values.size();
        }
        if (kind == 3) {
            return values.stream().reduce((a, b) -> a + b).orElse(null);
        }
        Comparator<Integer> least = Comparator.naturalOrder();
        return values.stream().min(kind == 4 ? least : least.reversed()).orElse(null);
    }

    int run() {
        if (!canRun()) {
            return -2000;
        }
        List<Integer[][]> combinations = new ArrayList<>();
        combine(new Integer[3][], 0, combinations);
        List<List<Integer>> rows = new ArrayList<>();
        for (List<Integer[][]> members : groups(combinations)) {
            Integer[][] first = members.isEmpty() ? new Integer[3][] : members.get(0);
            if (holds(3, first)) {
                // The fourth value is the one of ORDER, for sorting alone.
                rows.add(Arrays.asList(output(0, members, first), output(1, members, first),
                        output(2, members, first), expression(9, first)));
            }
        }
        rows.sort(Comparator.comparing(row -> row.get(3), Comparator.nullsFirst(Comparator.naturalOrder())));
        answer = new ArrayList<>();
        for (List<Integer> row : rows) {
            List<Integer> values = row.subList(0, 3);
            if (!distinct || !answer.contains(values)) {
                answer.add(values);
            }
        }
        return answer.size();
    }
}
