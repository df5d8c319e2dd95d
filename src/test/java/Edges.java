import java.util.function.Supplier;

/** What the tests of single sentences have in common. */
abstract class Edges {
    /** A call of the face on an object. */
    interface Call {
        long on(ColumnCasts x);
    }

    /** A call that is told a column. */
    interface ColumnCall {
        long on(ColumnCasts x, int c);
    }

    /** A call that is told two columns. */
    interface ColumnsCall {
        long on(ColumnCasts x, int c, int d);
    }

    static final int NONE = ColumnCasts.NONE, BAD = ColumnCasts.BAD, STATE = ColumnCasts.STATE, FULL = ColumnCasts.FULL;
    static final int OVER = ColumnCasts.OVER, BEYOND = ColumnCasts.BEYOND, OTHER = ColumnCasts.OTHER;
    static final int NOTHING = ColumnCasts.NOTHING, NO_SUCH = -5;
    static final int MIN = Integer.MIN_VALUE, MAX = Integer.MAX_VALUE;
    static final long LEAST = Long.MIN_VALUE, MOST = Long.MAX_VALUE;
    /** How a cell of any kind is written: a box of a kind 0 .. 7 as 10 and its kind. */
    static final int NOUGHT = 18, WORD = 19;
    /** No numbers of columns; -1 is one for key() and filter(). */
    static final int[] NO_COLUMNS = {-1, 12, -2, MIN, MAX};
    /** In busy(): column 0 is gone, 1 .. 5 are there, 6 .. 11 didn't come. */
    static final int GONE = 0, ANYS = 1, LONGS = 2, DOUBLES = 3, BOXES = 4, LIKE_LONGS = 5, TO_COME = 6, LAST_TO_COME = 11;
    private static final String WIDENINGS =
        "00 11 13 14 15 16 17 22 24 25 26 27 33 34 35 36 37 44 45 46 47 55 56 57 66 67 77";

    private static String sentence = "";

    /** The tests that follow are of these words of a section of the document, and of the promises told. */
    static void says(String section, String words, int... promises) {
        Doc.quote(section, words);
        boolean isPromise = Character.isDigit(section.charAt(0));
        StringBuilder name = new StringBuilder(isPromise ? "promise " : "").append(section);
        for (int promise : promises) {
            name.append(", promise ").append(promise);
        }
        sentence = name + " (" + words + "): ";
    }

    static void due(String what, long got, long want) {
        Checks.due(sentence + what, got, want);
    }

    static void due(String what, String got, String want) {
        Checks.due(sentence + what, got, want);
    }

    static ColumnCasts table(int rows, String... texts) {
        return Checks.table(rows, texts);
    }

    /** One row and one column of a kind. */
    static ColumnCasts one(int kind) {
        ColumnCasts x = Checks.rows(1);
        x.column(kind);
        return x;
    }

    /** A column 0 of any kind, its rows written by pairs of as and v. */
    static ColumnCasts cells(long[]... written) {
        ColumnCasts x = Checks.rows(written.length);
        x.column(9);
        for (int r = 0; r < written.length; r++) {
            due("write as " + written[r][0] + " of " + written[r][1], x.write(0, r, (int) written[r][0], written[r][1]), 1);
        }
        return x;
    }

    /** An object of 3 rows with something of everything. */
    static ColumnCasts busy() {
        ColumnCasts x = withoutText();
        Checks.feed(x, "d(4,8");
        return x;
    }

    static ColumnCasts withoutText() {
        ColumnCasts x = table(3, "i(1,2,3)", "o(i5,'b)", "l(3,1,2)");
        x.key(0, true);
        x.key(2, false);
        x.filter(1, 4, 4, 0);
        x.image();
        Checks.read(x, "d(1,-4,1)");
        Checks.read(x, "w(_,7)");
        Checks.read(x, "l(9,8,9)");
        x.drop(GONE);
        x.key(ANYS, true);
        x.sort(0);
        x.filter(LONGS, 2, 5, 1);
        x.keep(1, LONGS, 2, 4, 1);
        x.ask(LONGS, 2, 7);
        return x;
    }

    /** busy() with as many columns, keys, filters and bytes of the text as can be. */
    static ColumnCasts full() {
        ColumnCasts x = busy();
        for (int c = TO_COME; c < 12; c++) {
            x.column(4);
        }
        x.key(LONGS, true);
        for (int f = 3; f < 6; f++) {
            x.filter(DOUBLES, 1, 6, 1);
        }
        x.filter(DOUBLES, 4, 6, 1);
        Checks.feed(x, "_".repeat(100 - x.count(7)));
        return x;
    }

    /** The call is answered so and leaves all as it was, but for what counts refusals. */
    static void refuses(String what, Supplier<ColumnCasts> table, Call call, long answer) {
        ColumnCasts x = table.get();
        int beyond = x.count(4);
        int other = x.count(5);
        int nothing = x.count(6);
        due(what, call.on(x), answer);
        due(what + ", count(4)", x.count(4), answer == BEYOND ? beyond + 1 : beyond);
        due(what + ", count(5)", x.count(5), answer == OTHER ? other + 1 : other);
        due(what + ", count(6)", x.count(6), answer == NOTHING ? nothing + 1 : nothing);
        due(what + ", then", State.of(x), State.of(table.get()));
    }

    static void refuses(String what, Call call, long answer) {
        refuses(what, Edges::busy, call, answer);
    }

    /** The call answers so and leaves all as it was. */
    static void asks(String what, Call call, long answer) {
        refuses(what, Edges::busy, call, answer);
    }

    /** All that a call answers to no columns, whatever else it is told. */
    static void refusesColumns(String what, ColumnCall call) {
        for (int c : NO_COLUMNS) {
            refuses(what + " column " + c, x -> call.on(x, c), NONE);
        }
        refusesOthers(what, call);
    }

    /** As above, of a call that takes -1. */
    static void refusesColumnsBut(String what, ColumnCall call) {
        for (int c : NO_COLUMNS) {
            if (c != -1) {
                refuses(what + " column " + c, x -> call.on(x, c), NONE);
            }
        }
        refusesOthers(what, call);
    }

    private static void refusesOthers(String what, ColumnCall call) {
        refuses(what + " the first column to come", x -> call.on(x, TO_COME), NOTHING);
        refuses(what + " the last column to come", x -> call.on(x, LAST_TO_COME), NOTHING);
        refuses(what + " a column that is gone", x -> call.on(x, GONE), OTHER);
    }

    /** The first column is refused ahead of the second. */
    static void refusesBoth(String what, ColumnsCall call) {
        int[] wrong = {-1, 12, TO_COME, GONE};
        int[] answers = {NONE, NONE, NOTHING, OTHER};
        refusesColumns(what + ", the first", (x, c) -> call.on(x, c, LONGS));
        refusesColumns(what + ", the second", (x, d) -> call.on(x, LONGS, d));
        for (int i = 0; i < wrong.length; i++) {
            int c = wrong[i];
            for (int d : wrong) {
                refuses(what + " columns " + c + " and " + d, x -> call.on(x, c, d), answers[i]);
            }
        }
    }

    static boolean widens(int from, int to) {
        return WIDENINGS.contains("" + from + to);
    }

    /** What ask() as 8 answers, and its number. */
    static void holds(String what, ColumnCasts x, int c, int r, int answer, long number) {
        due(what + ", held", x.ask(c, r, 8), answer);
        due(what + ", its number", x.got(), number);
    }

    static String told(long[] written) {
        return written[0] + " of " + written[1];
    }

    static long bits(float v) {
        return Float.floatToIntBits(v);
    }

    static long bits(double v) {
        return Double.doubleToLongBits(v);
    }
}
