import java.util.ArrayList;
import java.util.List;

/** Compares answers with those that are due and tells the wrong ones. */
final class Checks {
    private static int wrong;

    private Checks() {
    }

    static void due(String what, long got, long want) {
        if (got != want) {
            wrong++;
            System.out.println(what + " answered " + got + ", due is " + want);
        }
    }

    static void due(String what, String got, String want) {
        if (!got.equals(want)) {
            wrong++;
            System.out.println(what + " answered " + got + ", due is " + want);
        }
    }

    static boolean isWrong() {
        return wrong != 0;
    }

    static void end() {
        System.out.println(wrong == 0 ? "all answers are as due" : wrong + " answers are not as due");
        if (wrong != 0) {
            System.exit(1);
        }
    }

    /** A new object with so many rows. */
    static ColumnCasts rows(int n) {
        ColumnCasts x = new ColumnCasts();
        x.size(n);
        return x;
    }

    static void feed(ColumnCasts x, String text) {
        int had = x.count(7);
        for (int i = 0; i < text.length(); i++) {
            due("feed of sign " + i + " of " + text, x.feed(text.charAt(i)), had + i + 1);
        }
    }

    /** What read() answers to a text. */
    static int read(ColumnCasts x, String text) {
        feed(x, text);
        return x.read();
    }

    /** A new object with so many rows and a column for each text. */
    static ColumnCasts table(int rows, String... texts) {
        ColumnCasts x = rows(rows);
        for (int c = 0; c < texts.length; c++) {
            due("read of " + texts[c], read(x, texts[c]), c);
        }
        return x;
    }

    static String spelled(ColumnCasts x, int c) {
        StringBuilder text = new StringBuilder();
        int sign = x.spelled(c, 0);
        for (int i = 1; sign >= 0; i++) {
            text.append((char) sign);
            sign = x.spelled(c, i);
        }
        return text.toString();
    }

    /** The rows of a view, as in a list. */
    static String viewed(ColumnCasts x, int view) {
        List<Integer> rows = new ArrayList<>();
        int length = x.viewed(view, -1);
        for (int i = 0; i < length; i++) {
            rows.add(x.viewed(view, i));
        }
        return rows.toString();
    }

    /** The best order for a view, behind how many cells are looked at. */
    static String ordered(ColumnCasts x, int view) {
        List<Integer> filters = new ArrayList<>();
        int length = x.count(3);
        for (int k = 0; k < length; k++) {
            filters.add(x.order(view, k));
        }
        return x.order(view, -1) + " " + filters;
    }

    /** All pairs, behind how many there are. */
    static String paired(ColumnCasts x, int c, int d) {
        List<Integer> pairs = new ArrayList<>();
        int pair = x.pair(c, d, 0);
        for (int i = 1; pair >= 0; i++) {
            pairs.add(pair);
            pair = x.pair(c, d, i);
        }
        return x.pair(c, d, -1) + " " + pairs;
    }

    /** The groups as first row and number of rows, behind how many there are. */
    static String grouped(ColumnCasts x, int view, int c) {
        StringBuilder text = new StringBuilder();
        text.append(x.group(view, c, -1, 0));
        int row = x.group(view, c, 0, 0);
        for (int i = 1; row >= 0; i++) {
            text.append(' ').append(row).append('x').append(x.group(view, c, i - 1, 1));
            row = x.group(view, c, i, 0);
        }
        return text.toString();
    }

    /** What was refused so far by -21, -22, -23. */
    static String refused(ColumnCasts x) {
        return x.count(4) + " " + x.count(5) + " " + x.count(6);
    }

    /** An object with column 0 gone, column 1 of kind 4 there, and the others not there. */
    static ColumnCasts withGone(int rows) {
        ColumnCasts x = rows(rows);
        x.column(4);
        x.column(4);
        x.drop(0);
        return x;
    }
}
