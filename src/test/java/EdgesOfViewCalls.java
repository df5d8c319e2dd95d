/** Promises 13 to 21: views, keys, filters. */
final class EdgesOfViewCalls extends Edges {
    private static final int[] NO_VIEWS = {-1, 2, -2, MIN, MAX};

    static void all() {
        view();
        viewRefused();
        viewed();
        viewedRefused();
        keep();
        keepRefused();
        key();
        keyRefused();
        sort();
        sortRefused();
        filter();
        filterCleared();
        filterRefused();
        order();
        orderOfSix();
        orderRefused();
        looked();
        lookedRefused();
        run();
        runRefused();
    }

    private static void view() {
        says("13", "A VIEW is all ROWS as they come: how many");
        ColumnCasts x = table(3, "i(3,1,2)");
        x.key(0, false);
        x.sort(0);
        x.sort(1);
        due("view 0", x.view(0), 3);
        due("view 0, as they come", Checks.viewed(x, 0), "[0, 1, 2]");
        due("view 1, still sorted", Checks.viewed(x, 1), "[1, 2, 0]");
        x.keep(0, 0, 3, 4, 0);
        due("view 0, empty", x.view(0), 3);
        due("view 0, again", Checks.viewed(x, 0), "[0, 1, 2]");
        x.keep(1, 0, 1, 4, 1);
        due("view 1", x.view(1), 3);
        due("view 1, as they come", Checks.viewed(x, 1), "[0, 1, 2]");
        ColumnCasts none = new ColumnCasts();
        due("no rows", none.view(0), 0);
        due("view of no rows", Checks.viewed(none, 0), "[]");
        none.size(40);
        due("40 rows", none.view(1), 40);
        due("the last one", none.viewed(1, 39), 39);
    }

    private static void viewRefused() {
        says("13", "NONE: view");
        for (int view : NO_VIEWS) {
            refuses("view " + view, x -> x.view(view), NONE);
        }
    }

    private static void viewed() {
        says("14", "The i-th ROW of a VIEW; i -1: how many");
        asks("the first of view 0", x -> x.viewed(0, 0), 1);
        asks("the second of view 0", x -> x.viewed(0, 1), 2);
        asks("the last of view 0", x -> x.viewed(0, 2), 0);
        asks("how many of view 0", x -> x.viewed(0, -1), 3);
        asks("the first of view 1", x -> x.viewed(1, 0), 0);
        asks("the last of view 1", x -> x.viewed(1, 1), 2);
        asks("how many of view 1", x -> x.viewed(1, -1), 2);
        due("how many of none", new ColumnCasts().viewed(0, -1), 0);
        ColumnCasts x = Checks.rows(40);
        due("how many of all", x.viewed(1, -1), 40);
        due("the last of all", x.viewed(1, 39), 39);
    }

    private static void viewedRefused() {
        says("14", "NONE: view, i");
        for (int view : NO_VIEWS) {
            refuses("view " + view + " at 0", x -> x.viewed(view, 0), NONE);
            refuses("view " + view + ", how many", x -> x.viewed(view, -1), NONE);
        }
        for (int i : new int[] {-2, MIN, 3, 40, MAX}) {
            refuses("view 0 at " + i, x -> x.viewed(0, i), NONE);
            refuses("view 1 at " + i, x -> x.viewed(1, i), NONE);
        }
        refuses("a row that is in view 0 alone", x -> x.viewed(1, 2), NONE);
        ColumnCasts x = new ColumnCasts();
        due("the first of none", x.viewed(0, 0), NONE);
        x.size(40);
        due("one behind all", x.viewed(0, 40), NONE);
    }

    private static void keep() {
        says("15", "ROWS whose CELLS stand a TEST stay in a VIEW: how many");
        ColumnCasts x = table(5, "i(5,1,4,2,3)");
        x.key(0, true);
        x.sort(0);
        due("all", x.keep(0, 0, 4, 4, 0), 5);
        due("all in their order", Checks.viewed(x, 0), "[0, 2, 4, 3, 1]");
        due("but the last", x.keep(0, 0, 2, 4, 1), 4);
        due("but the first", x.keep(0, 0, 0, 4, 5), 3);
        due("in their order", Checks.viewed(x, 0), "[2, 4, 3]");
        due("one alone", x.keep(0, 0, 1, 4, 3), 1);
        due("that one", Checks.viewed(x, 0), "[4]");
        due("of those kept", x.keep(0, 0, 1, 4, 5), 0);
        due("of none", x.keep(0, 0, 4, 4, 5), 0);
        due("view 1 stays", Checks.viewed(x, 1), "[0, 1, 2, 3, 4]");
        due("view 1", x.keep(1, 0, 5, 4, 1), 1);
        due("the row of view 1", Checks.viewed(x, 1), "[1]");
        due("the table stays", Checks.spelled(x, 0), "i(5,1,4,2,3)");
        due("no filter came", x.count(3), 0);
        due("no rows", table(0, "i()").keep(0, 0, 4, 4, 0), 0);
        due("40 rows", table(40, "i()").keep(1, 0, 4, 4, 0), 40);
        due("40 rows, none", table(40, "i()").keep(1, 0, 3, 4, 0), 0);
    }

    private static void keepRefused() {
        says("15", "NONE: view; COLUMN; BAD: test, kind, v, as of a FILTER");
        for (int view : NO_VIEWS) {
            refuses("view " + view, x -> x.keep(view, LONGS, 4, 4, 0), NONE);
            refuses("view " + view + " of one gone", x -> x.keep(view, GONE, 4, 4, 0), NONE);
            refuses("view " + view + " of one to come", x -> x.keep(view, TO_COME, 4, 4, 0), NONE);
            refuses("view " + view + " by test 6", x -> x.keep(view, LONGS, 6, 4, 0), NONE);
        }
        refusesColumns("keep", (x, c) -> x.keep(0, c, 4, 4, 0));
        refusesColumns("keep by test 6", (x, c) -> x.keep(0, c, 6, 4, 0));
        refusesColumns("keep by kind 8", (x, c) -> x.keep(1, c, 0, 8, 0));
        refusesColumns("keep by word 703", (x, c) -> x.keep(1, c, 0, 10, 703));
        for (int[] each : wrongTests()) {
            refuses("test " + each[0] + ", kind " + each[1] + ", " + each[2], x -> x.keep(0, LONGS, each[0], each[1], each[2]), BAD);
            refuses("test " + each[0] + ", kind " + each[1] + ", " + each[2], x -> x.keep(1, ANYS, each[0], each[1], each[2]), BAD);
        }
        for (long v : new long[] {LEAST, MOST, (1L << 32) + 1}) {
            refuses("word " + v, x -> x.keep(0, ANYS, 1, 10, v), BAD);
        }
        for (int kind = 0; kind < 8; kind++) {
            for (long v : new long[] {LEAST, -1, 0, 703, MOST}) {
                due("kind " + kind + " of " + v, busy().keep(0, ANYS, 3, kind, v), 1);
            }
        }
        due("the first word", busy().keep(0, ANYS, 2, 10, 1), 1);
        due("the last word", busy().keep(0, ANYS, 0, 10, 702), 1);
    }

    /** Test, kind, v, of which one is BAD. */
    private static int[][] wrongTests() {
        return new int[][] {{-1, 4, 0}, {6, 4, 0}, {MIN, 4, 0}, {MAX, 4, 0}, {0, -1, 0}, {0, 8, 0}, {0, 9, 1}, {0, 11, 1}, {0, MIN, 0}, {0, MAX, 0},
            {0, 10, 0}, {0, 10, 703}, {0, 10, -1}, {1, 10, MIN}, {2, 10, MAX}, {5, 10, 0}, {5, 8, 0}, {6, 8, 0}, {-1, 10, 703}};
    }

    private static void key() {
        says("16", "A KEY more: how many (c -1: none then, 0, all else does not matter)");
        ColumnCasts x = table(2, "i(1,2)");
        due("c -1 of none", x.key(-1, true), 0);
        for (int k = 1; k <= 4; k++) {
            due("key", x.key(0, true), k);
            due("keys", x.count(2), k);
        }
        due("c -1 of four", x.key(-1, false), 0);
        due("keys", x.count(2), 0);
        due("sort by none", x.sort(0), STATE);
        due("the first key anew", x.key(0, false), 1);
        due("sorted by that alone", x.sort(0), 0);
        due("c -1, turned", x.key(-1, true), 0);
        due("keys", x.count(2), 0);
        due("c -1 without columns", new ColumnCasts().key(-1, false), 0);
        ColumnCasts y = busy();
        due("key", y.key(LONGS, false), 4);
        due("view 0 stays", Checks.viewed(y, 0), "[1, 2, 0]");
        due("view 1 stays", Checks.viewed(y, 1), "[0, 2]");
        due("filters stay", y.count(3), 2);
        due("c -1", y.key(-1, false), 0);
        due("filters stay then", y.count(3), 2);
        due("refused", Checks.refused(y), "0 0 0");
    }

    private static void keyRefused() {
        says("16", "COLUMN; FULL: 4");
        refusesColumnsBut("key", (x, c) -> x.key(c, false));
        refuses("a fifth", Edges::full, x -> x.key(LONGS, false), FULL);
        refuses("a fifth, of no column", Edges::full, x -> x.key(12, false), NONE);
        refuses("a fifth, of no column", Edges::full, x -> x.key(-2, true), NONE);
        refuses("a fifth, of one gone", Edges::full, x -> x.key(GONE, true), OTHER);
        ColumnCasts x = table(2, "i(2,1)");
        for (int k = 0; k < 4; k++) {
            x.key(0, false);
        }
        due("a fifth, of one to come", x.key(1, false), NOTHING);
        due("a fifth", x.key(0, false), FULL);
        due("none then", x.key(-1, false), 0);
        due("a first", x.key(0, false), 1);
    }

    private static void sort() {
        says("17", "A VIEW is SORTED: how many ROWS stand elsewhere");
        ColumnCasts x = table(4, "i(4,2,3,1)");
        x.key(0, false);
        due("first and last", x.sort(0), 2);
        due("view 0", Checks.viewed(x, 0), "[3, 1, 2, 0]");
        due("view 1 stays", Checks.viewed(x, 1), "[0, 1, 2, 3]");
        due("sorted ahead", x.sort(0), 0);
        x.write(0, 3, 4, 9);
        due("all", x.sort(0), 4);
        due("view 0", Checks.viewed(x, 0), "[1, 2, 0, 3]");
        x.keep(1, 0, 2, 4, 3);
        due("a view kept small", x.sort(1), 0);
        due("view 1", Checks.viewed(x, 1), "[0, 3]");
        x.write(0, 3, 4, 1);
        due("two of two", x.sort(1), 2);
        due("view 1, sorted", Checks.viewed(x, 1), "[3, 0]");
        due("cells stay", Checks.spelled(x, 0), "i(4,2,3,1)");
        x.keep(1, 0, 1, 4, 4);
        due("a view of one", x.sort(1), 0);
        x.keep(1, 0, 3, 4, 4);
        due("an empty view", x.sort(1), 0);
        ColumnCasts all = Checks.rows(40);
        all.column(4);
        for (int r = 0; r < 40; r++) {
            all.write(0, r, 4, 40 - r);
        }
        all.key(0, false);
        due("40 rows turned round", all.sort(0), 40);
        due("the first", all.viewed(0, 0), 39);
        due("the last", all.viewed(0, 39), 0);
        due("39 rows in their order", all.keep(0, 0, 2, 4, 1), 39);
        due("sorted", all.sort(0), 0);
    }

    private static void sortRefused() {
        says("17", "NONE: view; STATE: no KEYS");
        for (int view : NO_VIEWS) {
            refuses("view " + view, x -> x.sort(view), NONE);
            refuses("view " + view + ", no keys", () -> table(3, "i(3,2,1)"), x -> x.sort(view), NONE);
        }
        refuses("view 0, no keys", () -> table(3, "i(3,2,1)"), x -> x.sort(0), STATE);
        refuses("view 1, no keys", () -> table(3, "i(3,2,1)"), x -> x.sort(1), STATE);
        refuses("no rows, no keys", ColumnCasts::new, x -> x.sort(0), STATE);
        ColumnCasts x = busy();
        x.key(-1, false);
        due("none any more", x.sort(0), STATE);
        due("view 0", Checks.viewed(x, 0), "[1, 2, 0]");
    }

    private static void filter() {
        says("18", "A FILTER more: how many (c -1: none then, 0, all else does not matter)");
        ColumnCasts x = table(3, "i(1,2,3)");
        for (int test = 0; test < 6; test++) {
            due("filter", x.filter(0, test, test == 5 ? 10 : test, 1), test + 1);
            due("filters", x.count(3), test + 1);
        }
        due("the view stays", Checks.viewed(x, 0), "[0, 1, 2]");
        x.filter(-1, 0, 0, 0);
        for (int kind = 0; kind < 8; kind++) {
            for (long v : new long[] {LEAST, MOST, 0}) {
                due("kind " + kind + " of " + v, x.filter(0, 1, kind, v), 1);
                x.filter(-1, 0, 0, 0);
            }
        }
        due("the first word", x.filter(0, 1, 10, 1), 1);
        due("the last word", x.filter(0, 1, 10, 702), 2);
    }

    private static void filterCleared() {
        says("18", "A FILTER more: how many (c -1: none then, 0, all else does not matter)");
        for (int[] each : wrongTests()) {
            ColumnCasts x = busy();
            due("c -1", x.filter(-1, each[0], each[1], each[2]), 0);
            due("filters", x.count(3), 0);
            due("run by none", x.run(0), 3);
            due("keys stay", x.count(2), 3);
        }
        ColumnCasts x = full();
        due("c -1 of six", x.filter(-1, 0, 0, MOST), 0);
        due("c -1 of none", x.filter(-1, 0, 0, LEAST), 0);
        due("a first", x.filter(LONGS, 1, 4, 1), 1);
        due("refused", Checks.refused(x), "0 0 0");
        due("c -1 without columns", new ColumnCasts().filter(-1, 9, 9, 9), 0);
    }

    private static void filterRefused() {
        says("18", "COLUMN; BAD: test, kind (0 .. 7, 10), v (by kind 10: 1 .. 702); FULL: 6");
        refusesColumnsBut("filter", (x, c) -> x.filter(c, 1, 4, 1));
        refusesColumnsBut("filter by test 6", (x, c) -> x.filter(c, 6, 4, 1));
        refusesColumnsBut("filter by kind 8", (x, c) -> x.filter(c, 0, 8, 1));
        refusesColumnsBut("filter by word 703", (x, c) -> x.filter(c, 0, 10, 703));
        for (int[] each : wrongTests()) {
            String what = "test " + each[0] + ", kind " + each[1] + ", " + each[2];
            refuses(what, x -> x.filter(LONGS, each[0], each[1], each[2]), BAD);
            refuses(what + ", full", Edges::full, x -> x.filter(ANYS, each[0], each[1], each[2]), BAD);
        }
        for (long v : new long[] {LEAST, MOST, (1L << 32) + 1}) {
            refuses("word " + v, x -> x.filter(ANYS, 1, 10, v), BAD);
        }
        refuses("a seventh", Edges::full, x -> x.filter(LONGS, 1, 4, 1), FULL);
        refuses("a seventh, of no column", Edges::full, x -> x.filter(12, 1, 4, 1), NONE);
        refuses("a seventh, of no column", Edges::full, x -> x.filter(-2, 1, 4, 1), NONE);
        refuses("a seventh, of one gone", Edges::full, x -> x.filter(GONE, 1, 4, 1), OTHER);
    }

    private static void order() {
        says("19", "BEST ORDER for a VIEW: k -1: how many CELLS are LOOKED at, else the k-th FILTER");
        asks("cells of view 0", x -> x.order(0, -1), 5);
        asks("cells of view 1", x -> x.order(1, -1), 3);
        asks("the first for view 0", x -> x.order(0, 0), 0);
        asks("the last for view 0", x -> x.order(0, 1), 1);
        ColumnCasts x = table(4, "i(1,2,3,4)");
        x.filter(0, 4, 4, 0);
        due("one alone", Checks.ordered(x, 0), "4 [0]");
        x.filter(0, 2, 4, 2);
        due("the less comes first", Checks.ordered(x, 0), "6 [1, 0]");
        x.filter(0, 1, 4, 9);
        due("none left by the first", Checks.ordered(x, 0), "4 [2, 0, 1]");
        x.keep(1, 0, 2, 4, 2);
        due("for view 1", Checks.ordered(x, 1), "2 [2, 0, 1]");
        x.keep(1, 0, 1, 4, 9);
        due("for an empty view", Checks.ordered(x, 1), "0 [0, 1, 2]");
        x.filter(-1, 0, 0, 0);
        due("by no filters", Checks.ordered(x, 0), "0 []");
        ColumnCasts y = table(6, "i(1,1,1,1,0,0)", "i(1,1,1,0,0,0)", "i(0,0,0,0,1,1)");
        y.filter(0, 1, 4, 1);
        y.filter(1, 1, 4, 1);
        y.filter(2, 1, 4, 1);
        due("the fewest first", Checks.ordered(y, 0), "8 [2, 0, 1]");
        y.filter(-1, 0, 0, 0);
        y.filter(0, 1, 4, 1);
        y.filter(1, 1, 4, 1);
        y.filter(1, 3, 4, 1);
        due("of those behind none left the least first", Checks.ordered(y, 0), "6 [2, 0, 1]");
    }

    private static void orderOfSix() {
        says("19", "BEST ORDER for a VIEW: k -1: how many CELLS are LOOKED at, else the k-th FILTER");
        ColumnCasts x = Checks.rows(40);
        x.column(4);
        for (int r = 0; r < 40; r++) {
            x.write(0, r, 4, r);
        }
        for (int f = 0; f < 6; f++) {
            x.filter(0, 0, 4, 30 - 5 * f);
        }
        due("the strictest first, then as they come", Checks.ordered(x, 0), "65 [5, 0, 1, 2, 3, 4]");
        x.filter(-1, 0, 0, 0);
        for (int f = 0; f < 6; f++) {
            x.filter(0, f % 2 == 0 ? 0 : 2, 4, f % 2 == 0 ? 35 - f : 4 + f);
        }
        due("from both sides", Checks.ordered(x, 0), "154 [5, 4, 0, 1, 2, 3]");
        x.filter(-1, 0, 0, 0);
        for (int f = 0; f < 6; f++) {
            x.filter(0, 4, 4, 0);
        }
        due("all left by all", Checks.ordered(x, 0), "240 [0, 1, 2, 3, 4, 5]");
    }

    private static void orderRefused() {
        says("19", "NONE: view, k");
        for (int view : NO_VIEWS) {
            refuses("view " + view, x -> x.order(view, -1), NONE);
            refuses("view " + view, x -> x.order(view, 0), NONE);
        }
        for (int k : new int[] {-2, 2, 6, MIN, MAX}) {
            refuses("filter " + k + " of two", x -> x.order(0, k), NONE);
            refuses("filter " + k + " of two, view 1", x -> x.order(1, k), NONE);
        }
        refuses("filter 0 of none", () -> table(1, "i()"), x -> x.order(0, 0), NONE);
        refuses("filter 6 of six", Edges::full, x -> x.order(0, 6), NONE);
        due("filter 5 of six", full().order(0, 5), 5);
        due("filters there are not, of no rows", new ColumnCasts().order(0, 0), NONE);
    }

    private static void looked() {
        says("20", "How many CELLS of a VIEW are LOOKED at by FILTERS as they came");
        asks("view 0", x -> x.looked(0), 5);
        asks("view 1", x -> x.looked(1), 3);
        ColumnCasts x = Checks.rows(40);
        x.column(4);
        due("no filters", x.looked(0), 0);
        for (int f = 1; f <= 6; f++) {
            x.filter(0, 4, 4, 0);
            due(f + " filters", x.looked(0), 40 * f);
        }
        x.filter(-1, 0, 0, 0);
        x.filter(0, 4, 4, 0);
        x.filter(0, 3, 4, 0);
        x.filter(0, 4, 4, 0);
        due("as they came, not as they would best", x.looked(0), 80);
        due("as they would best", x.order(0, -1), 40);
        x.size(0);
        due("no rows", x.looked(0), 0);
        due("no rows of view 1", x.looked(1), 0);
    }

    private static void lookedRefused() {
        says("20", "NONE");
        for (int view : NO_VIEWS) {
            refuses("view " + view, x -> x.looked(view), NONE);
            refuses("view " + view + ", no filters", () -> Checks.rows(2), x -> x.looked(view), NONE);
        }
    }

    private static void run() {
        says("21", "All FILTERS are done on a VIEW: how many ROWS are left");
        ColumnCasts x = busy();
        due("view 0", x.run(0), 1);
        due("row left", Checks.viewed(x, 0), "[0]");
        due("view 1 stays", Checks.viewed(x, 1), "[0, 2]");
        due("view 1", x.run(1), 1);
        due("row left in view 1", Checks.viewed(x, 1), "[0]");
        due("filters stay", x.count(3), 2);
        due("again", x.run(0), 1);
        ColumnCasts y = table(5, "i(5,1,4,2,3)");
        due("no filters", y.run(0), 5);
        y.key(0, false);
        y.sort(0);
        y.filter(0, 4, 4, 0);
        due("a filter that leaves all", y.run(0), 5);
        due("in their order", Checks.viewed(y, 0), "[1, 3, 4, 2, 0]");
        y.filter(0, 2, 4, 1);
        y.filter(0, 0, 4, 5);
        due("two more", y.run(0), 3);
        due("in their order", Checks.viewed(y, 0), "[3, 4, 2]");
        y.filter(0, 3, 4, 0);
        due("one that leaves none", y.run(0), 0);
        due("an empty view", y.run(0), 0);
        due("the table stays", Checks.spelled(y, 0), "i(5,1,4,2,3)");
        due("view 1 all the while", Checks.viewed(y, 1), "[0, 1, 2, 3, 4]");
        for (int last = 0; last < 6; last++) {
            ColumnCasts z = table(40, "i()");
            for (int f = 0; f < 6; f++) {
                z.filter(0, f == last ? 3 : 4, 4, 0);
            }
            due("filter " + last + " leaves none", z.run(1), 0);
        }
    }

    private static void runRefused() {
        says("21", "NONE");
        for (int view : NO_VIEWS) {
            refuses("view " + view, x -> x.run(view), NONE);
            refuses("view " + view + ", no filters", () -> Checks.rows(2), x -> x.run(view), NONE);
        }
    }
}
