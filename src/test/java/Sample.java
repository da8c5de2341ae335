import java.util.ArrayList;
import java.util.List;

/** Objects with something of everything, and all that can be seen of an object. */
final class Sample {
    private static final int N = Due.NULL;

    private Sample() {
    }

    /** A table with rows, a full one and an empty one; an answer is kept, and the query has gone on since. */
    static NullQueries filled() {
        NullQueries q = new NullQueries();
        q.row(0, 1, N, 3);
        q.row(0, 2, 5, -9);
        q.row(0, 2, 9, N);
        fill(q, 1);
        q.from(0, false);
        q.from(1, true);
        feed(q, 1, 81, 0, 10);
        feed(q, 4, 0);
        feed(q, 5, 71, 1, 11);
        feed(q, 7, 1);
        feed(q, 9, 72, 50, 1);
        q.summary(2, 1);
        q.distinct(true);
        q.run();
        q.summary(0, 5);
        feed(q, 6, 76, 82, 12);
        return q;
    }

    /** Six rows with 0 .. 5, 0 or 1, and NULL. */
    static void fill(NullQueries q, int table) {
        for (int i = 0; i < 6; i++) {
            q.row(table, i, i % 2, N);
        }
    }

    static void feed(NullQueries q, int part, int... tokens) {
        for (int token : tokens) {
            q.feed(part, token);
        }
    }

    /** What questions tell, and then what calls tell that use up the query. */
    static List<Integer> lookAt(NullQueries q) {
        List<Integer> told = new ArrayList<>();
        tables(q, told);
        for (int part = 0; part < 10; part++) {
            told.add(q.state(part));
        }
        answer(q, told);
        for (int part = 0; part < 10; part++) {
            finish(q, part, told);
        }
        told.add(q.run());
        answer(q, told);
        told.add(q.distinct(false));
        for (int output = 0; output < 3; output++) {
            told.add(q.summary(output, 0));
        }
        for (int part = 0; part < 10; part++) {
            told.add(q.erase(part));
        }
        sources(q, told);
        return told;
    }

    private static void tables(NullQueries q, List<Integer> told) {
        for (int table = 0; table < 3; table++) {
            for (int i = 0; i < 6; i++) {
                for (int column = 0; column < 3; column++) {
                    told.add(q.value(table, i, column));
                }
            }
        }
    }

    private static void answer(NullQueries q, List<Integer> told) {
        told.add(q.size());
        told.add(q.digest());
        for (int i = 0; i < 6; i++) {
            for (int output = 0; output < 3; output++) {
                told.add(q.answer(i, output));
            }
        }
    }

    /** Which tokens a part takes until it is complete tells which ones it has. */
    private static void finish(NullQueries q, int part, List<Integer> told) {
        for (int tries = 0; tries < 20 && q.state(part) == -1; tries++) {
            int taken = q.feed(part, 50);
            if (taken == Due.FULL) {
                told.add(taken);
                return;
            }
            told.add(taken == Due.BAD ? q.feed(part, 82) : taken);
        }
    }

    /** With an ON condition that never holds, only a LEFT join leaves rows. */
    private static void sources(NullQueries q, List<Integer> told) {
        for (int part = 1; part <= 2; part++) {
            feed(q, part, 80, 50, 50);
            told.add(q.run());
            q.erase(part);
        }
        for (int i = 0; i < 3; i++) {
            told.add(q.from(0, false));
        }
        for (int source = 0; source < 3; source++) {
            q.feed(4 + source, 10 * source);
        }
        told.add(q.run());
        told.add(q.digest());
    }
}
