/** Promises 1 to 4: a new object, row, drop and value. */
public final class TablesTest {
    private static final Due due = new Due();
    private static final int[] NO_TABLE = {-1, 3, Integer.MIN_VALUE, Integer.MAX_VALUE};
    private static final int[] NO_VALUE = {-10, 10, 999, 1001, -1000, Integer.MIN_VALUE, Integer.MAX_VALUE};

    public static void main(String[] args) {
        newObject();
        rowAnswersItsNumber();
        rowRefuses();
        rowTestsInOrder();
        dropMovesLaterRows();
        dropRefuses();
        valueRefuses();
        due.end();
    }

    private static void newObject() {
        NullQueries q = new NullQueries();
        for (int table = 0; table < 3; table++) {
            due.is("new: value", q.value(table, 0, 0), Due.BAD);
            due.is("new: drop", q.drop(table, 0), Due.BAD);
        }
        for (int part = 0; part < 10; part++) {
            due.is("new: state(" + part + ")", q.state(part), 0);
            due.is("new: erase(" + part + ")", q.erase(part), 0);
        }
        due.is("new: size", q.size(), 0);
        due.is("new: digest", q.digest(), 0);
        due.is("new: answer", q.answer(0, 0), Due.NONE);
        due.is("new: run", q.run(), Due.BAD);
        due.is("new: distinct", q.distinct(false), 0);
        for (int output = 0; output < 3; output++) {
            due.is("new: summary", q.summary(output, 0), 0);
        }
        due.is("new: from", q.from(0, false), 0);
        NullQueries other = new NullQueries();
        due.is("a second object has its own tables", q.row(0, 1, 2, 3), 0);
        due.is("a second object has its own tables", other.row(0, 4, 5, 6), 0);
        due.is("a second object has its own tables", q.value(0, 0, 0), 1);
        due.is("a second object has its own query", other.run(), Due.BAD);
    }

    private static void rowAnswersItsNumber() {
        NullQueries q = new NullQueries();
        for (int i = 0; i < 6; i++) {
            for (int table = 0; table < 3; table++) {
                due.is("row", q.row(table, i, -9 + table, i == 2 ? Due.NULL : 9 - i), i);
            }
        }
        for (int i = 0; i < 6; i++) {
            for (int table = 0; table < 3; table++) {
                due.is("value column 0", q.value(table, i, 0), i);
                due.is("value column 1", q.value(table, i, 1), -9 + table);
                due.is("value column 2", q.value(table, i, 2), i == 2 ? Due.NULL : 9 - i);
            }
        }
        due.is("row 7", q.row(1, 0, 0, 0), Due.FULL);
        due.is("drop", q.drop(1, 5), 5);
        due.is("row in the place made", q.row(1, Due.NULL, 9, -9), 5);
        due.is("value", q.value(1, 5, 0), Due.NULL);
        due.is("value", q.value(1, 5, 1), 9);
        due.is("value", q.value(1, 5, 2), -9);
    }

    private static void rowRefuses() {
        NullQueries q = new NullQueries();
        for (int table : NO_TABLE) {
            due.is("row of table " + table, q.row(table, 0, 0, 0), Due.BAD);
        }
        for (int value : NO_VALUE) {
            due.is("row with a = " + value, q.row(0, value, 0, 0), Due.BAD);
            due.is("row with b = " + value, q.row(0, 0, value, 0), Due.BAD);
            due.is("row with c = " + value, q.row(0, 0, 0, value), Due.BAD);
        }
        due.is("refused rows are not there", q.value(0, 0, 0), Due.BAD);
        due.is("row", q.row(0, -9, 9, Due.NULL), 0);
    }

    private static void rowTestsInOrder() {
        NullQueries q = new NullQueries();
        for (int i = 0; i < 6; i++) {
            q.row(0, i, i, i);
        }
        due.is("a wrong value comes before a full table", q.row(0, 0, 10, 0), Due.BAD);
        due.is("full", q.row(0, 0, 0, 0), Due.FULL);
        due.is("others have room", q.row(1, 0, 0, 0), 0);
        due.is("a full table stays", q.value(0, 5, 2), 5);
        due.is("no seventh row", q.value(0, 6, 0), Due.BAD);
    }

    private static void dropMovesLaterRows() {
        for (int gone = 0; gone < 6; gone++) {
            NullQueries q = new NullQueries();
            for (int i = 0; i < 6; i++) {
                q.row(0, 7, 7, 7);
                q.row(1, i, -i, i == 3 ? Due.NULL : i + 1);
                q.row(2, 8, 8, 8);
            }
            due.is("drop(1, " + gone + ")", q.drop(1, gone), 5);
            for (int i = 0; i < 5; i++) {
                int was = i < gone ? i : i + 1;
                due.is("value 0 after drop " + gone, q.value(1, i, 0), was);
                due.is("value 1 after drop " + gone, q.value(1, i, 1), -was);
                due.is("value 2 after drop " + gone, q.value(1, i, 2), was == 3 ? Due.NULL : was + 1);
            }
            due.is("value after the last", q.value(1, 5, 0), Due.BAD);
            due.is("another table", q.value(0, 5, 2), 7);
            due.is("another table", q.value(2, 0, 0), 8);
            due.is("another table", q.value(2, 5, 0), 8);
            for (int left = 4; left >= 0; left--) {
                due.is("drop the first", q.drop(1, 0), left);
            }
            due.is("drop from none", q.drop(1, 0), Due.BAD);
        }
    }

    private static void dropRefuses() {
        NullQueries q = new NullQueries();
        q.row(0, 1, 2, 3);
        for (int table : NO_TABLE) {
            due.is("drop of table " + table, q.drop(table, 0), Due.BAD);
        }
        for (int i : new int[] {-1, 1, 6, Integer.MIN_VALUE, Integer.MAX_VALUE}) {
            due.is("drop row " + i, q.drop(0, i), Due.BAD);
        }
        due.is("nothing went", q.value(0, 0, 2), 3);
        due.is("drop", q.drop(0, 0), 0);
        due.is("gone", q.value(0, 0, 0), Due.BAD);
    }

    private static void valueRefuses() {
        NullQueries q = new NullQueries();
        q.row(2, 1, 2, 3);
        q.row(2, 4, 5, 6);
        for (int table : NO_TABLE) {
            due.is("value of table " + table, q.value(table, 0, 0), Due.BAD);
        }
        for (int i : new int[] {-1, 2, 6, Integer.MIN_VALUE, Integer.MAX_VALUE}) {
            due.is("value of row " + i, q.value(2, i, 0), Due.BAD);
        }
        for (int column : new int[] {-1, 3, Integer.MIN_VALUE, Integer.MAX_VALUE}) {
            due.is("value of column " + column, q.value(2, 0, column), Due.BAD);
        }
        due.is("value", q.value(2, 1, 2), 6);
        due.is("value of an empty table", q.value(0, 0, 0), Due.BAD);
    }
}
