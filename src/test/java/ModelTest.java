/**
 * All promises: runs of calls, chosen by a fixed sequence of numbers, on NullQueries and on
 * the Model; every answer has to be the same.
 */
public final class ModelTest {
    private static final int RUNS = 15000;
    // What an object answers after so many calls is free.
    private static final int MOST_CALLS = 512;
    private static final int[] JUNK = {-1, 3, 9, 13, 23, 29, 33, 40, 60, 69, 77, 79, 88, 89, 93, 99, 103, 109, 113, 123,
        129, 133, 143, 153, 160, 1000, -10, Integer.MIN_VALUE, Integer.MAX_VALUE};

    private static int wrong;
    private static int checks;
    private static int filled;
    private static long seed;
    private static int run;
    private static int calls;
    private static int sources;
    private static NullQueries q;
    private static Model model;

    public static void main(String[] args) {
        for (run = 0; run < RUNS && wrong < 20; run++) {
            seed = run * 7919L + 17;
            q = new NullQueries();
            model = new Model();
            calls = 0;
            sources = 0;
            oneRun();
        }
        System.out.println(checks + " answers compared, " + wrong + " not the same; " + filled + " answers with rows");
        if (wrong != 0 || filled < RUNS) {
            System.exit(1);
        }
    }

    private static int upTo(int count) {
        seed = seed * 6364136223846793005L + 1442695040888963407L;
        return (int) ((seed >>> 33) % count);
    }

    private static boolean oneIn(int count) {
        return upTo(count) == 0;
    }

    private static void same(String call, int got, int want) {
        calls++;
        if (calls > MOST_CALLS) {
            return;
        }
        checks++;
        if (got != want) {
            wrong++;
            System.out.println("run " + run + ": " + call + " answered " + got + ", the model " + want);
        }
    }

    private static void oneRun() {
        for (int rows = upTo(16); rows > 0; rows--) {
            addRow();
        }
        while (calls < MOST_CALLS) {
            makeQuery();
            ask();
            for (int changes = upTo(8); changes > 0; changes--) {
                change();
            }
            ask();
            if (oneIn(2)) {
                q.clear();
                model.clear();
                calls++;
                sources = 0;
                askParts();
            }
        }
    }

    private static int cell() {
        return oneIn(4) ? 1000 : oneIn(60) ? 10 + upTo(3) : oneIn(3) ? upTo(19) - 9 : upTo(3);
    }

    private static int around(int count) {
        return oneIn(15) ? upTo(count + 3) - 1 : upTo(count);
    }

    private static void addRow() {
        int table = around(3);
        int a = cell();
        int b = cell();
        int c = cell();
        same("row(" + table + ", " + a + ", " + b + ", " + c + ")", q.row(table, a, b, c), model.row(table, a, b, c));
    }

    private static void addSource() {
        int table = around(3);
        boolean left = oneIn(2);
        int number = model.from(table, left);
        same("from(" + table + ", " + left + ")", q.from(table, left), number);
        sources = number < 0 ? sources : number + 1;
    }

    private static void makeQuery() {
        for (int sources = 1 + upTo(4); sources > 0; sources--) {
            addSource();
        }
        for (int part = 0; part < 10; part++) {
            if (oneIn(part >= 4 && part <= 6 ? 5 : 2)) {
                continue;
            }
            feedPart(part);
        }
        for (int output = 0; output < 3; output++) {
            if (oneIn(4)) {
                summary(output);
            }
        }
        if (oneIn(3)) {
            distinct();
        }
    }

    private static void feed(int part, int token) {
        same("feed(" + part + ", " + token + ")", q.feed(part, token), model.feed(part, token));
    }

    /** Tokens are tried until the part is complete, ever smaller ones, with wrong ones among them. */
    private static void feedPart(int part) {
        int most = 1 + upTo(14);
        for (int tries = 0; tries < 60 && model.state(part) != 1; tries++) {
            feed(part, tries < most ? anyToken() : smallToken());
        }
        if (model.state(part) != 1 && !oneIn(20)) {
            erase(part);
        }
    }

    private static int anyToken() {
        switch (upTo(9)) {
            case 0: case 1:
                return 71 + upTo(6);
            case 2: case 3:
                return 80 + upTo(8);
            case 4:
                return 90 + upTo(3);
            case 5: case 6:
                return 100 + 10 * upTo(6) + upTo(3);
            case 7:
                return oneIn(3) ? JUNK[upTo(JUNK.length)] : 30 + upTo(3);
            default:
                return smallToken();
        }
    }

    private static int smallToken() {
        switch (upTo(7)) {
            case 0:
                return oneIn(3) ? 70 : 41 + upTo(19);
            case 1:
                return 50 + upTo(3);
            case 2:
                return 30 + upTo(3);
            case 3:
                return oneIn(2) ? 82 : 80 + upTo(4);
            default:
                // Seldom a source that is not there: then run is refused.
                return 10 * upTo(oneIn(40) || sources == 0 ? 3 : sources) + upTo(3);
        }
    }

    private static void erase(int part) {
        same("erase(" + part + ")", q.erase(part), model.erase(part));
    }

    private static void summary(int output) {
        int kind = around(6);
        same("summary(" + output + ", " + kind + ")", q.summary(output, kind), model.summary(output, kind));
    }

    private static void distinct() {
        boolean on = !oneIn(3);
        same("distinct(" + on + ")", q.distinct(on), model.distinct(on));
    }

    private static void change() {
        switch (upTo(8)) {
            case 0:
                addRow();
                break;
            case 1:
                int table = around(3);
                int i = upTo(7) - (oneIn(10) ? 1 : 0);
                same("drop(" + table + ", " + i + ")", q.drop(table, i), model.drop(table, i));
                break;
            case 2:
                addSource();
                break;
            case 3:
                erase(around(10));
                break;
            case 4:
                summary(around(3));
                break;
            case 5:
                distinct();
                break;
            case 6:
                feed(around(10), anyToken());
                break;
            default:
                int part = upTo(10);
                erase(part);
                feedPart(part);
        }
    }

    private static void askParts() {
        for (int part = -1; part <= 10; part++) {
            same("state(" + part + ")", q.state(part), model.state(part));
        }
    }

    private static void ask() {
        askParts();
        for (int table = 0; table < 3; table++) {
            int i = upTo(7);
            int column = around(3);
            same("value(" + table + ", " + i + ", " + column + ")", q.value(table, i, column), model.value(table, i, column));
        }
        same("run()", q.run(), model.run());
        same("size()", q.size(), model.size());
        same("digest()", q.digest(), model.digest());
        int size = model.size();
        filled += size > 0 && calls < MOST_CALLS ? 1 : 0;
        for (int i = -1; i <= Math.min(size, 6); i++) {
            for (int output = 0; output < 3; output++) {
                same("answer(" + i + ", " + output + ")", q.answer(i, output), model.answer(i, output));
            }
        }
        same("answer(" + size + ", 0)", q.answer(size, 0), model.answer(size, 0));
        same("answer(0, 3)", q.answer(0, 3), model.answer(0, 3));
        same("answer(0, -1)", q.answer(0, -1), model.answer(0, -1));
    }
}
