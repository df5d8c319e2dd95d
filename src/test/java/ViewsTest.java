/** Promises 13 to 21: views, keys, filters. */
public final class ViewsTest {
    private static final int MIN = Integer.MIN_VALUE, MAX = Integer.MAX_VALUE;

    private static void due(String what, long got, long want) {
        Checks.due(what, got, want);
    }

    private static void view() {
        ColumnCasts x = Checks.table(4, "i(3,1,2,1)");
        due("13: keep", x.keep(1, 0, 1, 4, 1), 2);
        due("13: the other view", x.viewed(0, -1), 4);
        due("13: view 1", x.view(1), 4);
        Checks.due("13: all as they come", Checks.viewed(x, 1), "[0, 1, 2, 3]");
        x.key(0, false);
        x.sort(0);
        Checks.due("13: sorted", Checks.viewed(x, 0), "[1, 3, 2, 0]");
        due("13: view 0", x.view(0), 4);
        Checks.due("13: as they come anew", Checks.viewed(x, 0), "[0, 1, 2, 3]");
        for (int view : new int[] {-1, 2, MIN, MAX}) {
            due("13: view " + view, x.view(view), ColumnCasts.NONE);
        }
    }

    private static void viewed() {
        ColumnCasts x = Checks.table(4, "i(3,1,2,1)");
        x.keep(0, 0, 2, 4, 1);
        due("14: how many", x.viewed(0, -1), 2);
        due("14: the first", x.viewed(0, 0), 0);
        due("14: the second", x.viewed(0, 1), 2);
        for (int i : new int[] {2, 3, -2, MIN, MAX}) {
            due("14: viewed 0 " + i, x.viewed(0, i), ColumnCasts.NONE);
        }
        due("14: of the other", x.viewed(1, 3), 3);
        due("14: no view 2", x.viewed(2, -1), ColumnCasts.NONE);
        due("14: no view -1", x.viewed(-1, 0), ColumnCasts.NONE);
    }

    private static void kept(String text, int test, int kind, long v, String rows) {
        ColumnCasts x = Checks.table(8, text);
        x.keep(0, 0, test, kind, v);
        Checks.due("15: of " + text + " by " + test + " " + kind + " " + v, Checks.viewed(x, 0), rows);
    }

    private static void tests() {
        String any = "o(i2,d8,z1,'b,_,c2,f9,l3)";
        kept(any, 0, 4, 3, "[0, 1, 5, 6]");
        kept(any, 1, 4, 2, "[0, 1, 5]");
        kept(any, 2, 4, 2, "[6, 7]");
        kept(any, 3, 4, 2, "[4]");
        kept(any, 4, 4, 2, "[0, 1, 2, 3, 5, 6, 7]");
        kept(any, 5, 4, 2, "[0]");
        kept(any, 0, 7, 9, "[0, 1, 5]");
        kept(any, 1, 7, 9, "[6]");
        kept(any, 2, 6, 8, "[6, 7]");
        kept(any, 5, 7, 9, "[]");
        kept(any, 5, 6, 9, "[6]");
        kept(any, 5, 2, 2, "[5]");
        kept(any, 1, 0, 1, "[2]");
        kept(any, 0, 0, 1, "[]");
        kept(any, 2, 0, 0, "[2]");
        kept(any, 5, 0, 3, "[2]");
        kept(any, 1, 1, 1, "[]");
        kept(any, 1, 10, 2, "[3]");
        kept(any, 0, 10, 3, "[3]");
        kept(any, 2, 10, 1, "[3]");
        kept(any, 5, 10, 2, "[3]");
        kept(any, 3, 10, 2, "[4]");
        kept("z(0,1,0,1,1,0)", 0, 0, 1, "[0, 2, 5, 6, 7]");
        kept("z(0,1,0,1,1,0)", 1, 4, 1, "[]");
    }

    private static void testsOfWords() {
        String notes = "n(a,aa,ab,b,ba,z,zz,_)";
        kept(notes, 0, 10, 2, "[0, 1, 2]");
        kept(notes, 2, 10, 28, "[3, 4, 5, 6]");
        kept(notes, 2, 10, 1, "[1, 2, 3, 4, 5, 6]");
        kept(notes, 1, 10, 702, "[6]");
        kept(notes, 0, 10, 26, "[0, 1, 2, 3, 4]");
        kept(notes, 1, 4, 1, "[]");
        kept(notes, 4, 4, 0, "[0, 1, 2, 3, 4, 5, 6]");
        kept("w(1,_,3,2)", 2, 5, 1, "[2, 3]");
        kept("w(1,_,3,2)", 3, 0, 0, "[1, 4, 5, 6, 7]");
    }

    private static void testsOfBytes() {
        kept("b(1,2,3)", 1, 7, 8, "[1]");
        kept("b(1,2,3)", 2, 6, 5, "[1, 2]");
        kept("c(1,2,3)", 0, 7, 9, "[0, 1, 3, 4, 5, 6, 7]");
        kept("s(1,2,3)", 1, 1, 3, "[2]");
        kept("l(1,2,3)", 1, 2, 3, "[2]");
        kept("f(1,8,3)", 1, 1, 2, "[1]");
        kept("d(1,8,3)", 1, 6, 3, "[2]");
    }

    /** Longs by their numbers, with a double as doubles. */
    private static void testsOfLongs() {
        ColumnCasts x = Checks.rows(3);
        x.column(5);
        x.write(0, 0, 5, Long.MAX_VALUE);
        x.write(0, 1, 5, Long.MAX_VALUE - 1);
        x.write(0, 2, 5, (1L << 53) + 1);
        due("15: longs fit by their numbers", x.keep(0, 0, 1, 5, Long.MAX_VALUE), 1);
        x.view(0);
        due("15: less by their numbers", x.keep(0, 0, 0, 5, Long.MAX_VALUE), 2);
        x.view(0);
        x.column(7);
        x.write(1, 0, 5, Long.MAX_VALUE);
        x.write(1, 1, 5, Long.MAX_VALUE);
        x.write(1, 2, 5, 1L << 53);
        Checks.due("15: with doubles as doubles", Checks.paired(x, 0, 1), "5 [0, 1, 100, 101, 202]");
    }

    private static void keep() {
        ColumnCasts x = Checks.withGone(3);
        x.write(1, 1, 4, 5);
        due("15: keep", x.keep(0, 1, 4, 0, 0), 3);
        due("15: keep less", x.keep(0, 1, 1, 4, 0), 2);
        due("15: of what is left", x.keep(0, 1, 2, 4, 3), 0);
        due("15: the other view", x.viewed(1, -1), 3);
        due("15: no view ahead of all", x.keep(2, 0, 9, 9, 9), ColumnCasts.NONE);
        due("15: no view -1", x.keep(-1, 1, 1, 4, 0), ColumnCasts.NONE);
        due("15: no column ahead of bad", x.keep(1, 12, 9, 9, 9), ColumnCasts.NONE);
        due("15: -1 is no column", x.keep(1, -1, 1, 4, 0), ColumnCasts.NONE);
        due("15: gone ahead of bad", x.keep(1, 0, 9, 9, 9), ColumnCasts.OTHER);
        due("15: not there ahead of bad", x.keep(1, 2, 9, 9, 9), ColumnCasts.NOTHING);
        for (int[] bad : new int[][] {{6, 4, 0}, {-1, 4, 0}, {1, 8, 0}, {1, 9, 1}, {1, 11, 1}, {1, -1, 1}, {1, 10, 0}, {3, 10, 703},
            {4, 10, -1}, {MAX, 4, 0}, {1, MIN, 0}}) {
            due("15: bad " + bad[0] + " " + bad[1] + " " + bad[2], x.keep(1, 1, bad[0], bad[1], bad[2]), ColumnCasts.BAD);
        }
        due("15: bad long", x.keep(1, 1, 1, 10, (1L << 32) + 1), ColumnCasts.BAD);
        due("15: nothing changed", x.viewed(1, -1), 3);
        Checks.due("15: refused", Checks.refused(x), "0 1 1");
    }

    private static void key() {
        ColumnCasts x = Checks.withGone(2);
        due("16: gone", x.key(0, false), ColumnCasts.OTHER);
        due("16: not there", x.key(2, true), ColumnCasts.NOTHING);
        due("16: no number -2", x.key(-2, true), ColumnCasts.NONE);
        due("16: no number 12", x.key(12, true), ColumnCasts.NONE);
        for (int k = 1; k <= 4; k++) {
            due("16: key " + k, x.key(1, k % 2 == 0), k);
        }
        due("16: full", x.key(1, false), ColumnCasts.FULL);
        due("16: column ahead of full", x.key(2, false), ColumnCasts.NOTHING);
        due("16: 4 keys", x.count(2), 4);
        due("16: none", x.key(-1, true), 0);
        due("16: none then", x.count(2), 0);
        due("16: none any more", x.sort(0), ColumnCasts.STATE);
        due("16: one anew", x.key(1, true), 1);
    }

    private static void sort() {
        ColumnCasts x = Checks.table(6, "i(3,1,2,1,3,2)", "n(b,_,a,aa,a,ab)");
        due("17: no keys", x.sort(0), ColumnCasts.STATE);
        due("17: no view ahead of no keys", x.sort(2), ColumnCasts.NONE);
        x.key(0, false);
        due("17: moved", x.sort(0), 5);
        Checks.due("17: by one key, stable", Checks.viewed(x, 0), "[1, 3, 2, 5, 0, 4]");
        due("17: again", x.sort(0), 0);
        x.key(1, false);
        due("17: by the second key", x.sort(0), 4);
        Checks.due("17: by two keys", Checks.viewed(x, 0), "[3, 1, 2, 5, 4, 0]");
        x.key(-1, false);
        x.key(1, true);
        x.key(0, true);
        x.sort(1);
        Checks.due("17: turned, nothing ahead", Checks.viewed(x, 1), "[1, 0, 5, 3, 4, 2]");
        x.drop(1);
        due("17: a key of a column that is gone", x.sort(0), 4);
        Checks.due("17: is passed over", Checks.viewed(x, 0), "[4, 0, 2, 5, 3, 1]");
        x.drop(0);
        due("17: all gone, no state", x.sort(1), 0);
        due("17: they count", x.count(2), 2);
        due("17: no view -1", x.sort(-1), ColumnCasts.NONE);
    }

    private static void sortByFourKeys() {
        ColumnCasts x = Checks.table(5, "i(1,1,1,1,1)", "i(2,2,2,2,2)", "i(3,4,3,3,4)", "n(a,b,a,c,a)");
        for (int c = 0; c < 4; c++) {
            x.key(c, c == 3);
        }
        due("17: four keys", x.sort(0), 3);
        Checks.due("17: by four keys, like ones as they stood", Checks.viewed(x, 0), "[3, 0, 2, 1, 4]");
    }

    private static void fullViews() {
        StringBuilder text = new StringBuilder("i(39");
        for (int r = 38; r > 7; r--) {
            text.append(',').append(r);
        }
        ColumnCasts x = Checks.table(40, text.append(')').toString());
        due("13: 40 rows", x.view(0), 40);
        x.key(0, false);
        x.key(0, true);
        x.key(0, false);
        x.key(0, false);
        due("17: 40 rows", x.sort(0), 40);
        due("14: the first of 40", x.viewed(0, 0), 32);
        due("14: the last of 40", x.viewed(0, 39), 0);
        due("14: no 41st", x.viewed(0, 40), ColumnCasts.NONE);
        for (int f = 0; f < 6; f++) {
            x.filter(0, 0, 4, 100 - f);
        }
        Checks.due("19: 40 rows", Checks.ordered(x, 0), "240 [0, 1, 2, 3, 4, 5]");
        due("20: 40 rows", x.looked(1), 240);
        due("21: 40 rows", x.run(0), 40);
        due("15: 40 rows", x.keep(0, 0, 4, 4, 0), 40);
        due("22: 40 rows by 40", x.pair(0, 0, -1), 32 + 8 * 8);
        due("23: 40 rows", x.group(1, 0, -1, 0), 33);
        due("23: the last group", x.group(1, 0, 32, 0), 32);
        due("23: of 8 rows", x.group(1, 0, 32, 1), 8);
        due("24: of the last group", x.sum(1, 0, 32, 0), 5);
    }

    private static void sortTurned() {
        ColumnCasts x = Checks.table(6, "i(1,2,1,2,1,2)");
        x.key(0, true);
        due("17: turned", x.sort(0), 6);
        Checks.due("17: turned, like ones stand as they did", Checks.viewed(x, 0), "[1, 3, 5, 0, 2, 4]");
    }

    private static void sortByRank() {
        ColumnCasts x = Checks.table(12, "o(_,'b,'ab,d4,f4,i1,b1,l1,z1,z0,i-5,s2)");
        x.key(0, false);
        x.sort(0);
        Checks.due("17: by rank", Checks.viewed(x, 0), "[9, 8, 10, 6, 5, 7, 4, 3, 11, 2, 1, 0]");
        x.keep(1, 0, 4, 0, 0);
        x.key(-1, false);
        x.key(0, true);
        due("17: of a kept view", x.sort(1), 9);
        Checks.due("17: a kept view turned", Checks.viewed(x, 1), "[1, 2, 11, 3, 4, 7, 5, 6, 10, 8, 9]");
    }

    private static void filter() {
        ColumnCasts x = Checks.withGone(2);
        due("18: gone ahead of bad", x.filter(0, 9, 9, 9), ColumnCasts.OTHER);
        due("18: not there ahead of bad", x.filter(2, 9, 9, 9), ColumnCasts.NOTHING);
        due("18: no number -2", x.filter(-2, 1, 4, 0), ColumnCasts.NONE);
        due("18: no number 12", x.filter(12, 1, 4, 0), ColumnCasts.NONE);
        for (int[] bad : new int[][] {{6, 4, 0}, {-1, 4, 0}, {1, 8, 0}, {1, 9, 1}, {1, 11, 1}, {1, -1, 1}, {1, 10, 0}, {3, 10, 703}}) {
            due("18: bad " + bad[0] + " " + bad[1] + " " + bad[2], x.filter(1, bad[0], bad[1], bad[2]), ColumnCasts.BAD);
        }
        due("18: none came", x.count(3), 0);
        for (int f = 1; f <= 6; f++) {
            due("18: filter " + f, x.filter(1, f - 1, f < 6 ? 4 : 10, f == 6 ? 702 : -9), f);
        }
        due("18: full", x.filter(1, 1, 4, 0), ColumnCasts.FULL);
        due("18: bad ahead of full", x.filter(1, 6, 4, 0), ColumnCasts.BAD);
        due("18: 6 filters", x.count(3), 6);
        due("18: none", x.filter(-1, 9, 9, 9), 0);
        due("18: none then", x.count(3), 0);
        due("18: one anew", x.filter(1, 1, 4, 0), 1);
    }

    /** Of 10 rows filter 0 leaves 8, 1 leaves 2, 2 leaves 5. */
    private static ColumnCasts threeFilters() {
        ColumnCasts x = Checks.table(10, "i(0,1,2,3,4,5,6,7,8,9)", "i(0,0,0,0,0,1,1,1,1,1)");
        x.filter(0, 0, 4, 8);
        x.filter(0, 2, 4, 7);
        x.filter(1, 1, 4, 0);
        return x;
    }

    private static void order() {
        ColumnCasts x = threeFilters();
        Checks.due("19: best", Checks.ordered(x, 0), "12 [1, 0, 2]");
        due("19: looked as they came", x.looked(0), 18);
        x.keep(1, 1, 1, 4, 0);
        Checks.due("19: best for view 1", Checks.ordered(x, 1), "5 [1, 0, 2]");
        due("19: k 3", x.order(0, 3), ColumnCasts.NONE);
        due("19: k -2", x.order(0, -2), ColumnCasts.NONE);
        due("19: k MAX", x.order(0, MAX), ColumnCasts.NONE);
        due("19: k MIN", x.order(0, MIN), ColumnCasts.NONE);
        due("19: view 2", x.order(2, -1), ColumnCasts.NONE);
        due("19: view -1", x.order(-1, 0), ColumnCasts.NONE);
        Checks.due("19: the views stay", Checks.viewed(x, 1), "[0, 1, 2, 3, 4]");
        x.filter(-1, 0, 0, 0);
        due("19: no filters", x.order(0, -1), 0);
        due("19: no filters, none of them", x.order(0, 0), ColumnCasts.NONE);
    }

    private static void orderAnew() {
        ColumnCasts x = Checks.table(4, "i(1,1,1,1)", "i(1,0,0,0)");
        x.filter(0, 1, 4, 1);
        x.filter(1, 1, 4, 1);
        Checks.due("19: order", Checks.ordered(x, 0), "5 [1, 0]");
        x.write(0, 0, 4, 0);
        x.write(0, 1, 4, 0);
        x.write(0, 2, 4, 0);
        x.write(0, 3, 4, 0);
        Checks.due("19: order anew", Checks.ordered(x, 0), "4 [0, 1]");
        x.filter(-1, 0, 0, 0);
        x.filter(1, 1, 4, 1);
        Checks.due("19: order of one", Checks.ordered(x, 0), "4 [0]");
    }

    private static void orderOfLikeOnes() {
        ColumnCasts x = Checks.table(4, "i(0,1,2,3)");
        x.filter(0, 4, 4, 0);
        x.filter(0, 2, 4, 1);
        x.filter(0, 0, 4, 2);
        x.filter(0, 4, 4, 0);
        Checks.due("19: the least first", Checks.ordered(x, 0), "6 [1, 2, 0, 3]");
        x.filter(0, 3, 4, 0);
        Checks.due("19: one that leaves none", Checks.ordered(x, 0), "4 [4, 0, 1, 2, 3]");
        x.filter(0, 3, 4, 0);
        Checks.due("19: of two that leave none the first", Checks.ordered(x, 0), "4 [4, 0, 1, 2, 3, 5]");
        x.size(0);
        Checks.due("19: no rows", Checks.ordered(x, 0), "0 [0, 1, 2, 3, 4, 5]");
    }

    /** Filter 0 alone leaves least, but 1 and 2 together leave none. */
    private static void orderNotByStep() {
        ColumnCasts x = Checks.table(10, "i(1,1,1,1,0,0,0,0,0,0)", "i(1,1,0,0,1,1,1,0,0,0)", "i(0,0,1,1,0,0,0,1,1,1)");
        for (int c = 0; c < 3; c++) {
            x.filter(c, 1, 4, 1);
        }
        Checks.due("19: not step by step", Checks.ordered(x, 0), "15 [1, 2, 0]");
    }

    private static void orderOfGone() {
        ColumnCasts x = threeFilters();
        x.drop(1);
        Checks.due("19: a filter of a column that is gone leaves none", Checks.ordered(x, 0), "10 [2, 0, 1]");
        due("20: it looks at all that is left", x.looked(0), 18);
        due("21: none is so", x.run(0), 0);
        due("21: filters stay", x.count(3), 3);
    }

    private static void looked() {
        ColumnCasts x = threeFilters();
        due("20: view 0", x.looked(0), 18);
        x.keep(1, 0, 2, 4, 5);
        due("20: view 1", x.looked(1), 4 + 2 + 0);
        x.filter(-1, 0, 0, 0);
        x.filter(1, 1, 4, 1);
        x.filter(0, 2, 4, 6);
        x.filter(0, 1, 4, 9);
        due("20: each of what is left", x.looked(0), 10 + 5 + 3);
        due("20: no view", x.looked(2), ColumnCasts.NONE);
        due("20: no view -1", x.looked(-1), ColumnCasts.NONE);
        x.filter(-1, 0, 0, 0);
        due("20: no filters", x.looked(0), 0);
        due("20: view 0 stays", x.viewed(0, -1), 10);
    }

    private static void run() {
        ColumnCasts x = threeFilters();
        due("21: none left", x.run(0), 0);
        Checks.due("21: the other view", Checks.viewed(x, 1), "[0, 1, 2, 3, 4, 5, 6, 7, 8, 9]");
        x.filter(-1, 0, 0, 0);
        x.filter(0, 0, 4, 8);
        x.filter(1, 1, 4, 1);
        x.key(0, true);
        x.sort(1);
        due("21: left", x.run(1), 3);
        Checks.due("21: in the order of the view", Checks.viewed(x, 1), "[7, 6, 5]");
        due("21: again", x.run(1), 3);
        x.filter(-1, 0, 0, 0);
        due("21: no filters", x.run(1), 3);
        due("21: no view", x.run(2), ColumnCasts.NONE);
        due("21: no view -1", x.run(-1), ColumnCasts.NONE);
    }

    public static void main(String[] args) {
        view();
        viewed();
        tests();
        testsOfWords();
        testsOfBytes();
        testsOfLongs();
        keep();
        key();
        sort();
        sortByFourKeys();
        fullViews();
        sortTurned();
        sortByRank();
        filter();
        order();
        orderAnew();
        orderOfLikeOnes();
        orderNotByStep();
        orderOfGone();
        looked();
        run();
        Checks.end();
    }
}
