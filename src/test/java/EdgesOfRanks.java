import java.util.ArrayList;
import java.util.Collections;
import java.util.List;

/** Terms 2: ranks, what fits and is the same, views, keys, tests, filters, pairs, groups, sums, casts. */
final class EdgesOfRanks extends Edges {
    private static final long TWO53 = 1L << 53;
    /** Cells of unlike ranks, each ahead of those behind it. */
    private static final long[][] RANKED = {
        {10, 0}, {10, 1},
        {15, LEAST}, {15, MIN - 1L}, {14, MIN}, {15, MIN}, {16, 4L * MIN}, {17, 4L * MIN}, {13, -32768}, {14, -32768},
        {11, -128}, {13, -128}, {14, -128}, {15, -128}, {16, -512}, {17, -512}, {14, -1}, {16, -1}, {17, -1},
        {11, 0}, {12, 0}, {13, 0}, {14, 0}, {15, 0}, {16, 0}, {17, 0}, {16, 1}, {17, 1}, {11, 1}, {12, 1}, {17, 5}, {11, 2},
        {11, 127}, {12, 65535}, {14, 65535}, {14, MAX}, {15, MAX}, {17, 4L * MAX}, {15, MAX + 1L},
        {15, TWO53}, {15, TWO53 + 1}, {16, TWO53 << 2}, {17, TWO53 << 2}, {15, TWO53 + 2},
        {16, MOST}, {17, MOST}, {15, MOST - 1}, {15, MOST},
        {WORD, 1}, {WORD, 27}, {WORD, 52}, {WORD, 2}, {WORD, 53}, {WORD, 78}, {WORD, 3}, {WORD, 676}, {WORD, 26}, {WORD, 677}, {WORD, 702}, {NOUGHT, 0}};

    static void all() {
        ranked();
        rankedAlike();
        rankedWords();
        same();
        sameNothing();
        fit();
        fitNothing();
        views();
        keys();
        sortedBySeveral();
        sortedTurned();
        sortedByGone();
        testsAround();
        testsOfUnlikes();
        testsOfNothingAndSame();
        filters();
        filtersOfGone();
        looks();
        bestOrder();
        pairs();
        groups();
        sums();
        sumsOver();
        sumsOfDoubles();
        castBoxes();
        castCells();
        comeBack();
    }

    /** Whether the first one is ahead of the second one. */
    private static boolean isAhead(long[] first, long[] second) {
        return cells(second, first).of(0, 2) == 0;
    }

    private static void ranked() {
        says("T2", "RANK of CELLS: BOOLEANS (false ahead of true), then numbers (KINDS 1 .. 7: as DOUBLES, the lesser ahead;", 12);
        for (int i = 0; i < RANKED.length; i++) {
            for (int j = 0; j < RANKED.length; j++) {
                due(told(RANKED[i]) + " ahead of " + told(RANKED[j]), isAhead(RANKED[i], RANKED[j]) ? 1 : 0, i < j ? 1 : 0);
            }
        }
    }

    /** Floats and doubles as large as a long's come by a cast alone. */
    private static void rankedAlike() {
        says("T2", "of like ones the lesser KIND; of one KIND the lesser), then WORDS (as in a book), then NOTHING", 12);
        ColumnCasts x = Checks.rows(3);
        for (int kind = 5; kind < 8; kind++) {
            x.column(kind);
            x.write(kind - 5, 0, 5, LEAST);
            x.write(kind - 5, 1, 5, MOST);
            due("cast of " + kind, x.cast(kind - 5, 9), kind);
        }
        x.column(9);
        for (int row = 0; row < 2; row++) {
            for (int first = 0; first < 3; first++) {
                for (int second = 0; second < 3; second++) {
                    x.bring(first, row, 3, 2, 1);
                    x.bring(second, row, 3, 1, 1);
                    due("kinds " + (5 + first) + " and " + (5 + second) + " ahead of nothing", x.of(3, 2), first < second ? 0 : 1);
                }
            }
        }
    }

    private static void rankedWords() {
        says("T2", "then WORDS (as in a book), then NOTHING", 12, 15, 17);
        List<String> book = new ArrayList<>();
        for (char first = 'a'; first <= 'z'; first++) {
            book.add("" + first);
            for (char second = 'a'; second <= 'z'; second++) {
                book.add("" + first + second);
            }
        }
        Collections.sort(book);
        for (int from = 0; from + 1 < book.size(); from += 25) {
            List<String> page = book.subList(from, Math.min(from + 26, book.size()));
            ColumnCasts x = table(page.size(), "n(" + String.join(",", page) + ")");
            due("words from " + page.get(0) + " on, not ahead", x.of(0, 2), page.size() - 1);
            x.key(0, true);
            x.sort(0);
            for (int i = 0; i < page.size(); i++) {
                due("from " + page.get(0) + " on, turned, at " + i, x.viewed(0, i), page.size() - 1 - i);
            }
        }
    }

    private static int isSame(long[] first, long[] second) {
        ColumnCasts x = cells(first, second);
        int differs = x.differs(0, 1);
        due("unlike ones of " + told(first) + " and " + told(second), x.of(0, 1), differs == NO_SUCH ? 1 : 2);
        due("groups of " + told(first) + " and " + told(second), x.group(0, 0, -1, 0), differs == NO_SUCH ? 1 : 2);
        return differs == NO_SUCH ? 1 : 0;
    }

    private static void same() {
        says("T2", "SAME: both NOTHING, BOXES of one KIND and NUMBER, one WORD", 11, 12, 23);
        for (int i = 0; i < RANKED.length; i++) {
            for (int j = 0; j <= i; j++) {
                due(told(RANKED[i]) + " and " + told(RANKED[j]) + ", same", isSame(RANKED[i], RANKED[j]), i == j ? 1 : 0);
            }
        }
        due("doubles made of unlike longs", isSame(new long[] {17, TWO53}, new long[] {17, TWO53 + 1}), 1);
        due("floats made of unlike longs", isSame(new long[] {16, 1 << 24}, new long[] {16, (1 << 24) + 1}), 1);
        due("bytes made of unlike longs", isSame(new long[] {11, -1}, new long[] {11, 255}), 1);
        due("booleans made of unlike longs", isSame(new long[] {10, 1}, new long[] {10, -1}), 1);
        due("a box of 1 and a word of 1", isSame(new long[] {14, 1}, new long[] {WORD, 1}), 0);
        due("a box of 0 and nothing", isSame(new long[] {14, 0}, new long[] {NOUGHT, 0}), 0);
    }

    private static void sameNothing() {
        says("T2", "SAME: both NOTHING, BOXES of one KIND and NUMBER, one WORD", 11, 12, 17, 23);
        for (int kind = 8; kind < 11; kind++) {
            // New; read; written over a box or a word; brought; cast.
            ColumnCasts x = Checks.rows(1);
            due("read", Checks.read(x, "won".charAt(kind - 8) + "(_)"), 0);
            x.size(5);
            int full = kind == 8 ? 14 : WORD;
            x.write(0, 2, full, 5);
            x.write(0, 2, NOUGHT, 5);
            x.write(0, 3, full, 5);
            x.bring(0, 0, 0, 3, 1);
            x.write(0, 4, full, 5);
            x.bring(0, 1, 0, 4, 1);
            due("unlike ones of kind " + kind, x.of(0, 1), 1);
            due("not ahead of kind " + kind, x.of(0, 2), 4);
            due("groups of kind " + kind, Checks.grouped(x, 0, 0), "1 0x5");
            for (int r = 1; r < 5; r++) {
                due("row " + r + " of kind " + kind, x.differs(0, r), NO_SUCH);
            }
            x.key(0, true);
            due("sorted", x.sort(0), 0);
            x.cast(0, kind == 8 ? 10 : 8);
            x.size(6);
            due("cast ones and a new one of kind " + kind, x.of(0, 1), 1);
        }
    }

    private static void fitting(long[] first, long[] second, int due) {
        ColumnCasts x = cells(first);
        x.column(9);
        x.write(1, 0, (int) second[0], second[1]);
        due(told(first) + " and " + told(second) + ", fitting", x.pair(0, 1, -1), due);
        due(told(second) + " and " + told(first) + ", fitting", x.pair(1, 0, -1), due);
        if (second[0] != NOUGHT) {
            int kind = second[0] == WORD ? 10 : (int) second[0] - 10;
            due(told(first) + " by test 1 of " + told(second), x.keep(0, 0, 1, kind, second[1]), due);
        }
    }

    private static void fit() {
        says("T2", "FIT: two BOOLEANS that are SAME; numbers, both of KINDS 1 .. 5 by their NUMBERS, else as DOUBLES, alike; one WORD", 15, 22);
        long[][][] fitting = {
            {{10, 1}, {10, 3}}, {{10, 0}, {10, 2}}, {{11, -1}, {15, -1}}, {{12, 65535}, {14, 65535}}, {{13, 5}, {12, 5}},
            {{14, MIN}, {15, MIN}}, {{14, 1}, {16, 4}}, {{14, 1}, {17, 4}}, {{16, 1}, {17, 1}}, {{15, TWO53 + 1}, {17, TWO53 << 2}},
            {{15, TWO53 + 1}, {16, TWO53 << 2}}, {{14, MAX}, {17, 4L * MAX}}, {{WORD, 702}, {WORD, 702}}};
        for (long[][] each : fitting) {
            fitting(each[0], each[1], 1);
        }
        long[][][] unfit = {
            {{10, 1}, {10, 0}}, {{10, 1}, {11, 1}}, {{10, 0}, {17, 0}}, {{11, -1}, {12, -1}}, {{15, TWO53 + 1}, {15, TWO53}},
            {{15, MOST}, {15, MOST - 1}}, {{14, MAX}, {16, 4L * MAX}}, {{14, 1}, {17, 5}}, {{WORD, 1}, {WORD, 27}}, {{WORD, 1}, {14, 1}},
            {{WORD, 1}, {10, 1}}, {{16, 1}, {17, 2}}};
        for (long[][] each : unfit) {
            fitting(each[0], each[1], 0);
        }
    }

    private static void fitNothing() {
        says("T2", "(NOTHING fits nothing.)", 22);
        for (long[] each : RANKED) {
            fitting(each, new long[] {NOUGHT, 0}, 0);
        }
        ColumnCasts x = table(3, "w()", "n()", "o()");
        due("two columns of nothing", x.pair(0, 1, -1), 0);
        due("a column of nothing and itself", x.pair(2, 2, -1), 0);
    }

    private static void views() {
        says("T2", "VIEWS 0, 1: ROWS in some order, each once at most (at first, as they come, all of them)", 13, 14);
        ColumnCasts x = new ColumnCasts();
        due("view 0 of no rows", x.viewed(0, -1), 0);
        due("view 1 of no rows", x.viewed(1, -1), 0);
        x.size(3);
        x.size(40);
        for (int view = 0; view < 2; view++) {
            due("view " + view, x.viewed(view, -1), 40);
            for (int i = 0; i < 40; i++) {
                due("view " + view + " at " + i, x.viewed(view, i), i);
            }
        }
        due("view 2", x.viewed(2, -1), NONE);
        due("view -1", x.viewed(-1, -1), NONE);
    }

    private static void keys() {
        says("T2", "KEYS (4 at most, none at first): a COLUMN, turned or not", 16);
        ColumnCasts x = table(2, "i(1,2)");
        due("keys at first", x.count(2), 0);
        due("sort by none", x.sort(0), STATE);
        for (int k = 1; k <= 4; k++) {
            due("key", x.key(0, k == 1), k);
        }
        due("a key more", x.key(0, false), FULL);
        due("4 keys", x.count(2), 4);
        due("sorted by the first, turned", x.sort(0), 2);
    }

    private static void sortedBySeveral() {
        says("T2", "if by the first KEY by which they aren't of one RANK it has the CELL that is ahead", 17);
        ColumnCasts x = table(6, "i(1,1,1,1,1,0)", "o(i1,l1,i1,i1,l1,i9)", "n(b,a,a,a,a,z)", "z(0,0,1,0,0,1)");
        for (int c = 0; c < 4; c++) {
            x.key(c, false);
        }
        due("elsewhere", x.sort(0), 5);
        Checks.due("by the first, second, third, fourth", Checks.viewed(x, 0), "[5, 3, 2, 0, 1, 4]");
        due("again", x.sort(0), 0);
        ColumnCasts none = Checks.rows(0);
        none.column(4);
        none.key(0, false);
        due("no rows", none.sort(0), 0);
        none.size(1);
        due("one row", none.sort(0), 0);
    }

    private static void sortedTurned() {
        says("T2", "(turned: the other way about); where there is none such they stand as they did", 17);
        ColumnCasts x = table(6, "o(_,'a,i1,z1,i1,_)");
        x.key(0, true);
        due("elsewhere", x.sort(0), 4);
        due("turned", Checks.viewed(x, 0), "[0, 5, 1, 2, 4, 3]");
        x.key(-1, true);
        x.key(0, false);
        due("elsewhere, not turned", x.sort(0), 6);
        due("like ones as they stood", Checks.viewed(x, 0), "[3, 2, 4, 1, 0, 5]");
        x.key(-1, false);
        x.key(0, true);
        x.sort(0);
        due("turned again, like ones as they stood", Checks.viewed(x, 0), "[0, 5, 1, 2, 4, 3]");
        String[] sorted = {"[2, 0, 3, 1]", "[0, 2, 1, 3]", "[3, 1, 2, 0]", "[1, 3, 0, 2]"};
        for (int turned = 0; turned < 4; turned++) {
            ColumnCasts y = table(4, "i(1,2,1,2)", "n(b,b,a,a)");
            y.key(0, (turned & 2) != 0);
            y.key(1, (turned & 1) != 0);
            y.sort(0);
            due("by two keys, turned " + turned, Checks.viewed(y, 0), sorted[turned]);
        }
    }

    private static void sortedByGone() {
        says("T2", "A KEY of a COLUMN that is GONE is passed over", 17);
        ColumnCasts x = table(3, "i(1,2,3)", "i(3,2,1)");
        x.key(0, true);
        x.key(1, false);
        x.key(0, true);
        x.drop(0);
        due("by the key behind it", x.sort(0), 2);
        due("view 0", Checks.viewed(x, 0), "[2, 1, 0]");
        x.drop(1);
        due("by none that is there", x.sort(0), 0);
        due("as it stood", Checks.viewed(x, 0), "[2, 1, 0]");
    }

    /** By tests 0 .. 5 as bits. */
    private static int stood(long[] cell, int kind, long v) {
        int bits = 0;
        for (int test = 0; test < 6; test++) {
            ColumnCasts x = cells(cell);
            bits |= x.keep(0, 0, test, kind, v) << test;
        }
        return bits;
    }

    private static void testsAround() {
        says("T2", "A TEST of a CELL by a told one (a BOX of a KIND 0 .. 7, or by 10 a WORD, MADE of v): 0 it is less, 1 it FITS,", 15);
        int less = 0b010001, fits = 0b010010, more = 0b010100, same = 0b110010;
        long[][] tests = {
            {10, 0, 0, 1, less}, {10, 1, 0, 1, same}, {10, 0, 0, 0, same}, {10, 1, 0, 0, more}, {10, 1, 0, -1, same},
            {14, 4, 4, 5, less}, {14, 5, 4, 5, same}, {14, 6, 4, 5, more}, {14, 5, 5, 5, fits}, {12, 5, 1, 5, fits},
            {11, -128, 1, 128, same}, {11, -127, 1, 128, more}, {12, 65535, 4, 65535, fits}, {12, 65535, 1, -1, more},
            {15, LEAST, 5, LEAST, same}, {15, LEAST, 5, LEAST + 1, less}, {15, MOST, 5, MOST - 1, more}, {15, MOST - 1, 5, MOST, less},
            {15, TWO53 + 1, 5, TWO53, more}, {15, TWO53 + 1, 7, TWO53 << 2, fits}, {15, TWO53 + 1, 6, TWO53 << 2, fits},
            {15, TWO53 + 2, 7, TWO53 << 2, more}, {15, TWO53 - 1, 7, TWO53 << 2, less},
            {14, 1, 7, 4, fits}, {14, 1, 7, 5, less}, {14, 1, 7, 3, more}, {17, 4, 6, 4, fits}, {17, 4, 7, 4, same}, {17, 3, 7, 4, less},
            {16, 5, 4, 1, more}, {14, MAX, 6, 4L * MAX, less}, {14, MAX, 7, 4L * MAX, fits},
            {WORD, 1, 10, 1, same}, {WORD, 1, 10, 27, less}, {WORD, 52, 10, 2, less}, {WORD, 2, 10, 52, more}, {WORD, 702, 10, 702, same},
            {WORD, 701, 10, 702, less}, {WORD, 702, 10, 26, more}};
        for (long[] each : tests) {
            long[] cell = {each[0], each[1]};
            due(told(cell) + " by kind " + each[2] + " of " + each[3], stood(cell, (int) each[2], each[3]), each[4]);
        }
    }

    private static void testsOfUnlikes() {
        says("T2", "(0, 2: two BOOLEANS, numbers as for FIT, or WORDS; else it isn't so)", 15);
        int isFull = 0b010000;
        for (int kind = 1; kind < 8; kind++) {
            due("true by kind " + kind, stood(new long[] {10, 1}, kind, 0), isFull);
            due("a word by kind " + kind, stood(new long[] {WORD, 1}, kind, 0), isFull);
            due("kind " + kind + " by false", stood(new long[] {10 + kind, 4}, 0, 0), isFull);
            due("kind " + kind + " by a word", stood(new long[] {10 + kind, 4}, 10, 1), isFull);
        }
        due("true by a word", stood(new long[] {10, 1}, 10, 1), isFull);
        due("a word by true", stood(new long[] {WORD, 1}, 0, 1), isFull);
    }

    private static void testsOfNothingAndSame() {
        says("T2", "3 it is NOTHING, 4 it isn't, 5 it is SAME", 15);
        for (int kind = 0; kind < 8; kind++) {
            due("nothing by kind " + kind, stood(new long[] {NOUGHT, 0}, kind, 0), 0b001000);
            due("0 by kind " + kind, stood(new long[] {10 + kind, 0}, kind, 0), 0b110010);
            due("0 of kind " + kind + " by kind " + (kind + 1) % 8, stood(new long[] {10 + kind, 0}, (kind + 1) % 8, 0),
                kind == 0 || kind == 7 ? 0b010000 : 0b010010);
        }
        due("nothing by a word", stood(new long[] {NOUGHT, 0}, 10, 702), 0b001000);
        ColumnCasts x = table(3, "i()", "w(_,1,_)");
        due("an int is never nothing", x.keep(0, 0, 3, 4, 0), 0);
        due("nothing in boxes", x.keep(1, 1, 3, 4, 0), 2);
    }

    private static void filters() {
        says("T2", "FILTERS 0 .. 5, as they come: a COLUMN, a TEST, a told CELL", 18);
        ColumnCasts x = table(3, "i(1,2,3)");
        due("none at first", x.count(3), 0);
        due("none run", x.run(0), 3);
        for (int f = 0; f < 6; f++) {
            due("filter " + f, x.filter(0, 2, 4, f - 5), f + 1);
        }
        due("a filter more", x.filter(0, 1, 4, 1), FULL);
        due("the last of them, filter 5", x.order(0, 5), 5);
        due("no filter 6", x.order(0, 6), NONE);
        due("all are run", x.run(0), 3);
        x.filter(-1, 0, 0, 0);
        for (int f = 0; f < 6; f++) {
            x.filter(0, 2, 4, f == 5 ? 2 : 0);
        }
        due("the sixth, too", x.run(0), 1);
    }

    private static void filtersOfGone() {
        says("T2", "(of a COLUMN that is GONE no ROW is so, they are LOOKED at all the same)", 19, 20, 21);
        for (int test = 0; test < 6; test++) {
            ColumnCasts x = table(3, "w(1,_,3)", "i()");
            x.filter(0, test, 4, 3);
            x.filter(1, 1, 4, 0);
            x.drop(0);
            due("looked at by test " + test, x.looked(0), 3);
            due("by the best order", x.order(0, -1), 3);
            due("that begins with it", x.order(0, 0), 0);
            due("looked at, view 1", x.looked(1), 3);
            due("run of test " + test, x.run(0), 0);
            due("it stays", x.count(3), 2);
        }
    }

    private static void looks() {
        says("T2", "Done on a VIEW in an order, one behind the other, each LOOKS at the CELLS of ROWS that are left by those ahead", 20);
        ColumnCasts x = table(5, "i(1,2,3,4,5)");
        due("by no filter", x.looked(0), 0);
        x.filter(0, 4, 4, 0);
        due("one that leaves all", x.looked(0), 5);
        x.filter(0, 2, 4, 2);
        due("one behind it", x.looked(0), 10);
        x.filter(0, 3, 4, 2);
        due("one behind 3 rows", x.looked(0), 13);
        x.filter(0, 4, 4, 2);
        due("one behind none", x.looked(0), 13);
        x.keep(1, 0, 1, 4, 9);
        due("an empty view", x.looked(1), 0);
        due("an empty view, best", x.order(1, -1), 0);
    }

    private static void bestOrder() {
        says("T2", "fewest CELLS are LOOKED at, of several that of which the first is least, then the second, and so on", 19);
        ColumnCasts x = Checks.rows(0);
        x.column(4);
        for (int f = 0; f < 6; f++) {
            x.filter(0, f % 2 == 0 ? 4 : 3, 4, 0);
        }
        due("no rows", Checks.ordered(x, 0), "0 [0, 1, 2, 3, 4, 5]");
        x.size(40);
        due("40 rows", Checks.ordered(x, 0), "40 [1, 0, 2, 3, 4, 5]");
        ColumnCasts y = table(8, "i(0,0,0,0,1,1,1,1)", "i(0,0,1,1,0,0,1,1)", "i(0,1,0,1,0,1,0,1)");
        for (int f = 0; f < 6; f++) {
            y.filter(2 - f % 3, 1, 4, 1);
        }
        due("each as good as the next", Checks.ordered(y, 0), "17 [0, 1, 2, 3, 4, 5]");
        y.filter(-1, 0, 0, 0);
        y.filter(0, 4, 4, 1);
        y.filter(1, 1, 4, 1);
        y.filter(0, 1, 4, 1);
        y.filter(2, 4, 4, 1);
        due("the fewest ahead", Checks.ordered(y, 0), "16 [1, 2, 0, 3]");
        ColumnCasts z = table(11, "i(1,1,1,1)", "i(1,1,0,0,0,1,1,1)", "i(0,0,1,1,0,0,0,0,1,1,1)");
        for (int c = 0; c < 3; c++) {
            z.filter(c, 1, 4, 1);
        }
        due("not the one that leaves fewest first", Checks.ordered(z, 0), "16 [1, 2, 0]");
    }

    private static void pairs() {
        says("T2", "PAIRS of COLUMNS c and d: for each ROW of VIEW 0, in its order, each one of VIEW 1, in its order", 22);
        ColumnCasts x = table(40, "i()", "l()");
        due("40 by 40", x.pair(0, 1, -1), 1600);
        due("the first", x.pair(0, 1, 0), 0);
        due("the last of row 0", x.pair(0, 1, 39), 39);
        due("the first of row 1", x.pair(0, 1, 40), 100);
        due("the last", x.pair(0, 1, 1599), 3939);
        due("one more", x.pair(0, 1, 1600), NONE);
        x.keep(1, 0, 3, 4, 0);
        due("view 1 empty", x.pair(0, 1, -1), 0);
        x.view(1);
        x.keep(0, 0, 3, 4, 0);
        due("view 0 empty", x.pair(0, 1, -1), 0);
        ColumnCasts y = table(3, "i(1,2,3)", "d(8,4,8)");
        y.key(0, true);
        y.sort(0);
        due("by view 0 sorted", Checks.paired(y, 0, 1), "3 [100, 102, 1]");
        y.sort(1);
        due("by both sorted", Checks.paired(y, 0, 1), "3 [102, 100, 1]");
    }

    private static void groups() {
        says("T2", "GROUPS of a COLUMN in a VIEW: ROWS whose CELLS are SAME; GROUPS in the order of their first ROWS", 23);
        ColumnCasts x = table(40, "i()", "o()");
        due("40 like rows", Checks.grouped(x, 0, 0), "1 0x40");
        for (int r = 0; r < 40; r++) {
            x.write(0, r, 4, 39 - r);
        }
        due("40 unlike rows", x.group(0, 0, -1, 0), 40);
        due("the last group", x.group(0, 0, 39, 0), 39);
        due("no more", x.group(0, 0, 40, 0), NONE);
        x.key(0, false);
        x.sort(1);
        due("the first group of the sorted view", x.group(1, 0, 0, 0), 39);
        due("the last group of the sorted view", x.group(1, 0, 39, 0), 0);
        x.keep(1, 0, 1, 4, 99);
        due("an empty view", x.group(1, 0, -1, 0), 0);
        due("no group of it", x.group(1, 0, 0, 0), NONE);
    }

    /** Column d summed by the first group of column 0. */
    private static void summed(String what, ColumnCasts x, int d, int answer, long got) {
        summed(what, x, d, 0, answer, got);
    }

    private static void summed(String what, ColumnCasts x, int d, int c, int answer, long got) {
        due(what, x.sum(0, c, 0, d), answer);
        due(what + ", got", x.got(), got);
    }

    private static void sums() {
        says("T2", "(others are passed over): all of KINDS 1 .. 5 (or none at all): as LONGS, from 0 on", 24);
        ColumnCasts x = table(5, "i()", "o(z1,'a,_,z1,'b)", "n(a,b)", "z(1,1,1)", "w(_,-7)", "o(b-1,c1,s2,i3,l4)", "b(1)", "i(2)", "i()");
        summed("none at all", x, 1, 5, 0);
        summed("of words", x, 2, 5, 0);
        summed("of booleans", x, 3, 5, 0);
        summed("of one box", x, 4, 5, -7);
        summed("of kinds 1 .. 5", x, 5, 5, 9);
        summed("of a column and itself", x, 0, 5, 0);
        x.write(6, 4, 1, -128);
        summed("of bytes", x, 6, 5, -127);
        x.write(7, 4, 4, MAX);
        summed("beyond an int's", x, 7, 5, MAX + 2L);
    }

    private static ColumnCasts longs(long... written) {
        ColumnCasts x = Checks.rows(written.length);
        x.column(4);
        x.column(5);
        for (int r = 0; r < written.length; r++) {
            x.write(1, r, 5, written[r]);
        }
        return x;
    }

    private static void sumsOver() {
        says("T2", "OVER (-15): a sum on the way isn't a long's", 24);
        summed("the most", longs(MOST - 1, 1), 1, 5, MOST);
        summed("the least", longs(LEAST + 1, -1), 1, 5, LEAST);
        summed("both ends", longs(LEAST, MOST), 1, 5, -1);
        summed("the least alone", longs(LEAST), 1, 5, LEAST);
        long[][] over = {{MOST, 1}, {1, MOST}, {LEAST, -1}, {-1, LEAST}, {MOST, MOST}, {LEAST, LEAST}, {MOST, 1, -1}, {LEAST, -1, 1}};
        for (long[] each : over) {
            ColumnCasts x = longs(each);
            due("over", x.sum(0, 0, 0, 1), OVER);
            due("got", x.got(), 0);
        }
    }

    private static void sumsOfDoubles() {
        says("T2", "else as DOUBLES, from 0 on", 24);
        ColumnCasts x = table(4, "i()", "o(i1,f1,'a,z1)", "o(d1,b-1)", "f(1,-1)", "d(-4)", "o(_,_,_,f0)");
        summed("an int and a float", x, 1, 7, bits(1.25));
        summed("a double and a byte", x, 2, 7, bits(-0.75));
        summed("floats that come to 0", x, 3, 7, 0);
        summed("below 0", x, 4, 7, bits(-1.0));
        summed("a float alone", x, 5, 7, 0);
        ColumnCasts y = cells(new long[] {15, MOST}, new long[] {15, MOST}, new long[] {17, 4}, new long[] {15, LEAST});
        y.column(4);
        summed("longs beyond a long's, with a double", y, 0, 1, 7, bits(9223372036854775808.0));
        ColumnCasts z = cells(new long[] {17, 4}, new long[] {15, 1}, new long[] {15, TWO53});
        z.column(4);
        summed("the large one last", z, 0, 1, 7, bits(9007199254740994.0));
        ColumnCasts first = cells(new long[] {15, TWO53}, new long[] {17, 4}, new long[] {15, 1});
        first.column(4);
        summed("the large one first, the others lost", first, 0, 1, 7, bits(9007199254740992.0));
        first.key(0, false);
        first.sort(0);
        summed("in the order of the view", first, 0, 1, 7, bits(9007199254740994.0));
    }

    /** The kinds, as bits, from which a cell comes back. */
    private static void back(long[] cell, int bits) {
        due(told(cell) + " comes back from", cells(cell).casts(0), bits);
    }

    private static void castBoxes() {
        says("T2", "CAST of a BOX to a KIND 0 .. 7: as Java casts (to BYTE, CHAR, SHORT from FLOATS, DOUBLES by way of INT)", 27);
        due("true", table(1, "z(1)").cast(0, 7), 0);
        String[][] casts = {
            {"z(1,0)", "1", "b(1,0)"}, {"z(1,0)", "2", "c(1,0)"}, {"z(1,0)", "4", "i(1,0)"}, {"z(1,0)", "6", "f(4,0)"}, {"z(1,0)", "7", "d(4,0)"},
            {"d(4,0)", "0", "z(1,0)"}, {"l(1,0)", "0", "z(1,0)"}, {"b(-128,127)", "2", "c(65408,127)"}, {"c(65535,32768)", "3", "s(-1,-32768)"},
            {"s(-32768,-1)", "2", "c(32768,65535)"}, {"f(-512,508)", "1", "b(-128,127)"}, {"d(0,262140)", "2", "c(0,65535)"},
            {"d(-131072,131068)", "3", "s(-32768,32767)"}, {"i(-128,127)", "1", "b(-128,127)"}, {"i(0,65535)", "2", "c(0,65535)"}};
        for (String[] each : casts) {
            ColumnCasts x = table(2, each[0]);
            due("cast of " + each[0] + " to " + each[1], x.cast(0, Integer.parseInt(each[1])), "zbcsilfd".indexOf(each[0].charAt(0)));
            due("cast of " + each[0] + " to " + each[1], Checks.spelled(x, 0), each[2]);
        }
        String[][] lost = {{"i(2)", "0"}, {"i(-1)", "0"}, {"d(1)", "0"}, {"i(128)", "1"}, {"i(-129)", "1"}, {"i(-1)", "2"}, {"i(65536)", "2"},
            {"i(32768)", "3"}, {"i(-32769)", "3"}, {"d(-4)", "2"}, {"d(512)", "1"}, {"d(1)", "4"}, {"f(2)", "5"}};
        for (String[] each : lost) {
            due("cast of " + each[0] + " to " + each[1], table(1, each[0]).cast(0, Integer.parseInt(each[1])), -1000);
        }
    }

    private static void castCells() {
        says("T2", "CAST of a CELL to a COLUMN's KIND: 0 .. 7: a BOX likewise; 8: to KIND 4, or NOTHING; 9: as it is; 10: a WORD, NOTHING", 26, 27);
        back(new long[] {NOUGHT, 0}, 0b11100000000);
        back(new long[] {WORD, 1}, 0b11000000000);
        back(new long[] {WORD, 702}, 0b11000000000);
        back(new long[] {10, 1}, 0b01111111111);
        back(new long[] {10, 0}, 0b01111111111);
        String[][] casts = {{"o(d4,_,b-1)", "8", "w(1,_,-1)"}, {"o(d1,'a,_)", "9", "o(d1,'a,_)"}, {"o('a,_,'zz)", "10", "n(a,_,zz)"},
            {"n(a,_,zz)", "9", "o('a,_,'zz)"}, {"w(1,_,-1)", "9", "o(i1,_,i-1)"}, {"n(_,_,_)", "8", "w(_,_,_)"}, {"w(_,_,_)", "10", "n(_,_,_)"},
            {"z(0,1,1)", "8", "w(0,1,1)"}, {"l(1,2,3)", "9", "o(l1,l2,l3)"}};
        for (String[] each : casts) {
            ColumnCasts x = table(3, each[0]);
            due("cast of " + each[0] + " to " + each[1], x.cast(0, Integer.parseInt(each[1])), "zbcsilfdwon".indexOf(each[0].charAt(0)));
            due("cast of " + each[0] + " to " + each[1], Checks.spelled(x, 0), each[2]);
        }
    }

    private static void comeBack() {
        says("T2", "(Others can't be.) It COMES BACK, if it can be, and, a BOX, cast back to the KIND it had, has the NUMBER it had", 26);
        int wholes = 0b01111111110;
        back(new long[] {14, 127}, wholes);
        back(new long[] {14, 128}, wholes & ~0b10);
        back(new long[] {14, -128}, wholes & ~0b100);
        back(new long[] {14, -129}, wholes & ~0b110);
        back(new long[] {14, 32767}, wholes & ~0b10);
        back(new long[] {14, 32768}, wholes & ~0b1010);
        back(new long[] {14, 65535}, wholes & ~0b1010);
        back(new long[] {14, 65536}, wholes & ~0b1110);
        back(new long[] {14, 1 << 24}, wholes & ~0b1110);
        back(new long[] {14, (1 << 24) + 1}, wholes & ~0b1001110);
        back(new long[] {14, MAX}, wholes & ~0b1110);
        back(new long[] {14, MAX - 1}, wholes & ~0b1001110);
        back(new long[] {14, MIN}, wholes & ~0b1110);
        back(new long[] {15, MAX + 1L}, wholes & ~0b100011110);
        back(new long[] {15, TWO53}, wholes & ~0b100011110);
        back(new long[] {15, TWO53 + 1}, 0b01000100000);
        back(new long[] {15, MOST}, wholes & ~0b100011110);
        back(new long[] {15, MOST - 1}, 0b01000100000);
        back(new long[] {15, LEAST}, wholes & ~0b100011110);
        back(new long[] {16, 4L << 31}, wholes & ~0b1110);
        back(new long[] {17, 4L << 31}, wholes & ~0b100011110);
        back(new long[] {17, 1}, 0b01011000000);
        back(new long[] {16, 1}, 0b01011000000);
        back(new long[] {17, 4L * MAX}, wholes & ~0b1001110);
        back(new long[] {17, -4}, wholes & ~0b100);
        back(new long[] {17, TWO53 - 1}, 0b01010000000);
        ColumnCasts x = one(7);
        x.write(0, 0, 5, MOST);
        due("a double above the most long comes back from longs", x.casts(0), wholes & ~0b100011110);
    }
}
