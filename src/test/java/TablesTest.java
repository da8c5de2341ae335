/** Sentence by sentence: what the terms say of an object and its tables, and promises 1 to 4. */
public final class TablesTest {
    private static final Due due = new Due();
    private static final int N = Due.NULL;
    private static final int[] NO_VALUE = {-10, 10, 999, 1001, -1000, Due.BAD, Integer.MIN_VALUE, Integer.MAX_VALUE};

    public static void main(String[] args) {
        callsOfAnObject();
        atMostSixRows();
        valuesOfColumns();
        newObject();
        objectsAreApart();
        rowOfNoTable();
        rowWithNoValue();
        rowOfAFullTable();
        rowTestsInOrder();
        rowAnswersItsNumber();
        dropMovesLaterRows();
        dropOfNoTableOrNoRow();
        dropAnswersHowManyAreLeft();
        valueOfATable();
        valueOfNoTableNoRowOrNoColumn();
        questionsChangeNothing();
        due.end();
    }

    private static void callsOfAnObject() {
        due.says("What it is", "An object is used for at most 512 calls after it has been made; what later calls answer is free.");
        NullQueries q = new NullQueries();
        for (int round = 0; round < 64; round++) {
            due.is("row", q.row(2, 3, round % 10, N), 0);
            due.is("from", q.from(2, true), 0);
            due.is("feed", q.feed(5, 1), 1);
            due.is("run", q.run(), 1);
            due.is("drop", q.drop(2, 0), 0);
            q.clear();
            due.is("size", q.size(), 1);
            due.is("answer after 8 times " + round + " calls", q.answer(0, 1), round % 10);
        }
        // Free, but LANGUAGE.md lets no call fail.
        for (int round = 0; round < 1000; round++) {
            q.row(round % 3, 1, 2, 3);
            q.from(round % 3, false);
            q.feed(round % 10, round % 160);
            q.run();
        }
    }

    private static void atMostSixRows() {
        due.says("Terms", "There are three TABLES 0 .. 2; each has at most six ROWS, numbered 0, 1, .. in their order, none at first.");
        NullQueries q = new NullQueries();
        for (int table = 0; table < 3; table++) {
            due.is("value at first", q.value(table, 0, 0), Due.BAD);
            due.is("drop at first", q.drop(table, 0), Due.BAD);
        }
        for (int i = 0; i < 6; i++) {
            for (int table = 0; table < 3; table++) {
                due.is("row", q.row(table, i, -9 + table, i == 2 ? N : 9 - i), i);
                due.is("value of the next row", q.value(table, i + 1, 0), Due.BAD);
            }
        }
        for (int table = 0; table < 3; table++) {
            due.is("a seventh row", q.row(table, 1, 1, 1), Due.FULL);
            for (int i = 0; i < 6; i++) {
                due.is("value column 0", q.value(table, i, 0), i);
                due.is("value column 1", q.value(table, i, 1), -9 + table);
                due.is("value column 2", q.value(table, i, 2), i == 2 ? N : 9 - i);
            }
        }
    }

    private static void valuesOfColumns() {
        due.says("Terms", "A row has three COLUMNS 0 .. 2; each holds a number -9 .. 9, or NULL (written 1000).");
        for (int column = 0; column < 3; column++) {
            NullQueries q = new NullQueries();
            for (int i = 0; i < 20; i++) {
                int[] values = {1, 2, 3};
                values[column] = i == 19 ? 1000 : i - 9;
                due.is("row with " + values[column], q.row(0, values[0], values[1], values[2]), 0);
                for (int k = 0; k < 3; k++) {
                    due.is("value(0, 0, " + k + ")", q.value(0, 0, k), values[k]);
                }
                q.drop(0, 0);
            }
        }
    }

    private static void newObject() {
        due.says("A new object", "No rows; no sources, all parts empty, no summaries, not DISTINCT; nothing has run.");
        NullQueries q = new NullQueries();
        for (int table = 0; table < 3; table++) {
            due.is("no rows", q.value(table, 0, 0), Due.BAD);
        }
        for (int part = 0; part < 10; part++) {
            due.is("state(" + part + ")", q.state(part), 0);
            due.is("erase(" + part + ")", q.erase(part), 0);
        }
        due.is("nothing has run: size", q.size(), 0);
        due.is("nothing has run: digest", q.digest(), 0);
        due.is("nothing has run: answer", q.answer(0, 0), Due.NONE);
        due.is("run without sources", q.run(), Due.BAD);
        due.is("distinct", q.distinct(false), 0);
        for (int output = 0; output < 3; output++) {
            due.is("summary", q.summary(output, 0), 0);
        }
        due.is("the first source", q.from(0, false), 0);
        due.rows("an empty query", q);
    }

    private static void objectsAreApart() {
        due.says("A new object", "No rows; no sources, all parts empty, no summaries, not DISTINCT; nothing has run.");
        NullQueries q = Sample.filled();
        NullQueries other = new NullQueries();
        due.is("a second object has its own tables", other.row(0, 4, 5, 6), 0);
        due.is("a second object has its own tables", q.value(0, 0, 0), 1);
        due.is("a second object has its own query", other.run(), Due.BAD);
        due.is("a second object has its own parts", other.state(4), 0);
        due.is("a second object has its own answer", other.size(), 0);
    }

    private static void rowOfNoTable() {
        due.says("row", "Adds a row at the end of a table. table is not 0 .. 2: BAD");
        for (int table : Due.outside(3)) {
            due.changesNothing("row of table " + table, Sample::filled, q -> q.row(table, 0, 0, 0), Due.BAD);
            due.changesNothing("row of table " + table, NullQueries::new, q -> q.row(table, N, N, N), Due.BAD);
        }
    }

    private static void rowWithNoValue() {
        due.says("row", "a value is not -9 .. 9 and not NULL: BAD");
        for (int value : NO_VALUE) {
            for (int table = 0; table < 3; table += 2) {
                int to = table;
                due.changesNothing("row with a = " + value, Sample::filled, q -> q.row(to, value, 0, 0), Due.BAD);
                due.changesNothing("row with b = " + value, Sample::filled, q -> q.row(to, 0, value, 0), Due.BAD);
                due.changesNothing("row with c = " + value, Sample::filled, q -> q.row(to, 0, 0, value), Due.BAD);
                due.changesNothing("row with NULLs and " + value, Sample::filled, q -> q.row(to, N, N, value), Due.BAD);
            }
        }
    }

    private static NullQueries full() {
        NullQueries q = Sample.filled();
        for (int table = 0; table < 3; table++) {
            Sample.fill(q, table);
        }
        return q;
    }

    private static void rowOfAFullTable() {
        due.says("row", "it has six rows: FULL");
        for (int table = 0; table < 3; table++) {
            int to = table;
            due.changesNothing("a seventh row", TablesTest::full, q -> q.row(to, 1, 2, 3), Due.FULL);
            due.changesNothing("a seventh row of NULLs", TablesTest::full, q -> q.row(to, N, N, N), Due.FULL);
        }
        NullQueries q = new NullQueries();
        Sample.fill(q, 1);
        due.is("another table is not full", q.row(2, 1, 2, 3), 0);
        due.is("another table is not full", q.row(0, 1, 2, 3), 0);
        due.is("drop", q.drop(1, 2), 5);
        due.is("a row in the place made", q.row(1, N, 9, -9), 5);
        due.is("full again", q.row(1, 0, 0, 0), Due.FULL);
        due.is("value of the last row", q.value(1, 5, 0), N);
        due.is("value of the last row", q.value(1, 5, 1), 9);
        due.is("value of the last row", q.value(1, 5, 2), -9);
        due.is("value of the row that moved", q.value(1, 4, 0), 5);
    }

    private static void rowTestsInOrder() {
        due.says("Terms", "In every method the tests are made in the order named.");
        for (int table = 0; table < 3; table++) {
            int to = table;
            due.changesNothing("a wrong a, table full", TablesTest::full, q -> q.row(to, 10, 0, 0), Due.BAD);
            due.changesNothing("a wrong b, table full", TablesTest::full, q -> q.row(to, 0, -10, 0), Due.BAD);
            due.changesNothing("a wrong c, table full", TablesTest::full, q -> q.row(to, 0, 0, 999), Due.BAD);
        }
        due.changesNothing("no table and no value", TablesTest::full, q -> q.row(3, 10, 10, 10), Due.BAD);
    }

    private static void rowAnswersItsNumber() {
        due.says("row", "Else answers its number.");
        NullQueries q = new NullQueries();
        for (int i = 0; i < 6; i++) {
            due.is("row " + i, q.row(1, i, i, i), i);
        }
        due.is("drop", q.drop(1, 0), 5);
        due.is("row after a drop", q.row(1, 7, 7, 7), 5);
        for (int left = 5; left >= 0; left--) {
            q.drop(1, 0);
        }
        due.is("the first row again", q.row(1, 8, 8, 8), 0);
        due.is("value", q.value(1, 0, 1), 8);
    }

    private static void dropMovesLaterRows() {
        due.says("drop", "Takes a row out; later ones get numbers less by one.");
        for (int gone = 0; gone < 6; gone++) {
            NullQueries q = new NullQueries();
            for (int table = 0; table < 3; table++) {
                Sample.fill(q, table);
            }
            due.is("drop(1, " + gone + ")", q.drop(1, gone), 5);
            for (int i = 0; i < 5; i++) {
                int was = i < gone ? i : i + 1;
                due.is("value(1, " + i + ", 0) after drop " + gone, q.value(1, i, 0), was);
                due.is("value(1, " + i + ", 1) after drop " + gone, q.value(1, i, 1), was % 2);
                due.is("value(1, " + i + ", 2) after drop " + gone, q.value(1, i, 2), N);
            }
            due.is("no sixth row", q.value(1, 5, 0), Due.BAD);
            for (int table = 0; table < 3; table += 2) {
                for (int i = 0; i < 6; i++) {
                    due.is("value of another table", q.value(table, i, 0), i);
                }
            }
        }
    }

    private static void dropOfNoTableOrNoRow() {
        due.says("drop", "table is not 0 .. 2, or there is no row i: BAD.");
        for (int table : Due.outside(3)) {
            due.changesNothing("drop of table " + table, Sample::filled, q -> q.drop(table, 0), Due.BAD);
        }
        int[] rows = {3, 6, 0};
        for (int table = 0; table < 3; table++) {
            int of = table;
            for (int i : Due.outside(rows[table])) {
                due.changesNothing("drop(" + of + ", " + i + ")", Sample::filled, q -> q.drop(of, i), Due.BAD);
            }
        }
        due.changesNothing("drop of a new object", NullQueries::new, q -> q.drop(0, 0), Due.BAD);
    }

    private static void dropAnswersHowManyAreLeft() {
        due.says("drop", "Else answers how many are left.");
        NullQueries q = new NullQueries();
        Sample.fill(q, 0);
        Sample.fill(q, 2);
        for (int left = 5; left >= 0; left--) {
            due.is("drop of the last row", q.drop(0, left), left);
            due.is("drop of the first row", q.drop(2, 0), left);
        }
        due.is("drop when none is left", q.drop(0, 0), Due.BAD);
        due.is("drop when none is left", q.drop(2, 0), Due.BAD);
    }

    private static void valueOfATable() {
        due.says("value", "A value of a table.");
        NullQueries q = Sample.filled();
        due.is("the first", q.value(0, 0, 0), 1);
        due.is("NULL", q.value(0, 0, 1), N);
        due.is("the last column", q.value(0, 1, 2), -9);
        due.is("the last row", q.value(1, 5, 0), 5);
    }

    private static void valueOfNoTableNoRowOrNoColumn() {
        due.says("value", "table is not 0 .. 2, there is no row i, or column is not 0 .. 2: BAD.");
        for (int table : Due.outside(3)) {
            due.changesNothing("value of table " + table, Sample::filled, q -> q.value(table, 0, 0), Due.BAD);
        }
        int[] rows = {3, 6, 0};
        for (int table = 0; table < 3; table++) {
            int of = table;
            for (int i : Due.outside(rows[table])) {
                due.changesNothing("value(" + of + ", " + i + ", 0)", Sample::filled, q -> q.value(of, i, 0), Due.BAD);
            }
        }
        for (int column : Due.outside(3)) {
            due.changesNothing("value of column " + column, Sample::filled, q -> q.value(0, 1, column), Due.BAD);
        }
        NullQueries q = Sample.filled();
        q.drop(1, 0);
        due.is("value of a row that is gone", q.value(1, 5, 0), Due.BAD);
    }

    private static void questionsChangeNothing() {
        due.says("Terms", "Questions change nothing.");
        due.changesNothing("value", Sample::filled, q -> q.value(1, 5, 1), 1);
        for (int part = 0; part < 10; part++) {
            int of = part;
            int[] states = {0, 1, 0, 0, 1, 1, -1, 1, 0, 1};
            due.changesNothing("state(" + of + ")", Sample::filled, q -> q.state(of), states[of]);
        }
        due.changesNothing("size", Sample::filled, q -> q.size(), 3);
        due.changesNothing("answer", Sample::filled, q -> q.answer(1, 0), 2);
        due.changesNothing("digest", Sample::filled, q -> q.digest(), 152);
    }
}
