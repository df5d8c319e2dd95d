/** Terms 1: the table, its kinds, what is made, widened, asked and written. */
final class EdgesOfCells extends Edges {
    /** The least and the largest number of kinds 0 .. 5. */
    private static final long[][] ENDS = {{0, 1}, {-128, 127}, {0, 65535}, {-32768, 32767}, {MIN, MAX}, {LEAST, MOST}};
    private static final int[] BEYOND_TWO = {-1, 2, MIN, MAX};

    static void all() {
        rows();
        columns();
        kinds();
        boxed();
        any();
        notes();
        newCells();
        newCellsBehindOld();
        notThereAndGone();
        refusedColumns();
        refusedFirstAndSecond();
        number();
        made();
        madeToTheNearest();
        madeWords();
        widened();
        widenedToTheNearest();
        asked();
        askedWidened();
        askedAsItIs();
        written();
        writtenBoxes();
        writtenNothingAndWords();
    }

    private static void rows() {
        says("T1", "THE TABLE has ROWS 0, 1, .. (40 at most, none at first)", 2);
        ColumnCasts x = new ColumnCasts();
        x.column(4);
        due("rows at first", x.count(0), 0);
        due("row 0 of none", x.ask(0, 0, 8), BEYOND);
        due("size 1", x.size(1), 0);
        due("row 0 of 1", x.ask(0, 0, 8), 104);
        due("row 1 of 1", x.ask(0, 1, 8), BEYOND);
        due("row -1 of 1", x.ask(0, -1, 8), BEYOND);
        due("size 40", x.size(40), 1);
        due("row 39 of 40", x.ask(0, 39, 8), 104);
        due("row 40 of 40", x.ask(0, 40, 8), BEYOND);
        due("size 41", x.size(41), BAD);
        due("40 rows", x.count(0), 40);
    }

    private static void columns() {
        says("T1", "COLUMNS 0 .. 11, as they come, each of a KIND, with a CELL for each ROW", 3);
        ColumnCasts x = Checks.rows(40);
        for (int c = 0; c < 12; c++) {
            due("column that comes", x.column(c % 11), c);
        }
        due("a column more", x.column(0), FULL);
        for (int c = 0; c < 12; c++) {
            int kind = c % 11;
            due("kind of " + c, x.kindOf(c), kind);
            due("the first cell of " + c, x.ask(c, 0, 8), kind <= 7 ? 100 + kind : 99);
            due("the last cell of " + c, x.ask(c, 39, 8), kind <= 7 ? 100 + kind : 99);
            due("no cell of " + c, x.ask(c, 40, 8), BEYOND);
        }
        due("no column 12", x.kindOf(12), NONE);
    }

    private static void kinds() {
        says("T1", "KINDS: 0 BOOLEAN, 1 BYTE, 2 CHAR, 3 SHORT, 4 INT, 5 LONG, 6 FLOAT, 7 DOUBLE, as Java has them", 3, 8);
        for (int kind = 0; kind < 6; kind++) {
            for (long end : ENDS[kind]) {
                ColumnCasts x = one(kind);
                due("write of " + end, x.write(0, 0, kind, end), 1);
                holds("kind " + kind + ", " + end, x, 0, 0, 100 + kind, end);
            }
        }
        for (long end : ENDS[5]) {
            ColumnCasts x = one(6);
            x.write(0, 0, 5, end);
            holds("float of " + end, x, 0, 0, 106, bits((float) end));
            x.column(7);
            x.write(1, 0, 5, end);
            holds("double of " + end, x, 1, 0, 107, bits((double) end));
        }
    }

    private static void boxed() {
        says("T1", "8 BOXED: NOTHING, or a BOX of KIND 4", 8);
        ColumnCasts x = one(8);
        holds("a new one", x, 0, 0, 99, 0);
        for (int end : new int[] {MIN, MAX}) {
            due("write of " + end, x.write(0, 0, 14, end), 1);
            holds("box of " + end, x, 0, 0, 104, end);
        }
        for (int as = 10; as < 18; as++) {
            due("write as " + as, x.write(0, 0, as, 1), as == 14 ? 1 : OTHER);
        }
        due("a word", x.write(0, 0, WORD, 1), OTHER);
        holds("what stays", x, 0, 0, 104, 1);
        due("nothing", x.write(0, 0, NOUGHT, 1), 1);
        holds("nothing", x, 0, 0, 99, 0);
    }

    private static void any() {
        says("T1", "9 ANY: NOTHING, a BOX of a KIND 0 .. 7, or a WORD (1 or 2 letters a .. z)", 8);
        ColumnCasts x = one(9);
        holds("a new one", x, 0, 0, 99, 0);
        for (int kind = 0; kind < 6; kind++) {
            for (long end : ENDS[kind]) {
                due("write of " + end, x.write(0, 0, 10 + kind, end), 1);
                holds("kind " + kind + ", " + end, x, 0, 0, 100 + kind, end);
            }
        }
        x.write(0, 0, 16, 4);
        holds("float", x, 0, 0, 106, bits(1f));
        x.write(0, 0, 17, 4);
        holds("double", x, 0, 0, 107, bits(1d));
        for (int v : new int[] {1, 26, 27, 702}) {
            due("word of " + v, x.write(0, 0, WORD, v), 1);
            holds("word of " + v, x, 0, 0, 110, v);
        }
        x.write(0, 0, NOUGHT, 0);
        holds("nothing", x, 0, 0, 99, 0);
    }

    private static void notes() {
        says("T1", "10 NOTES: NOTHING, or a WORD", 8);
        ColumnCasts x = one(10);
        holds("a new one", x, 0, 0, 99, 0);
        for (int v : new int[] {1, 26, 27, 702}) {
            due("word of " + v, x.write(0, 0, WORD, v), 1);
            holds("word of " + v, x, 0, 0, 110, v);
        }
        for (int as = 10; as < 18; as++) {
            due("write as " + as, x.write(0, 0, as, 1), OTHER);
        }
        holds("what stays", x, 0, 0, 110, 702);
        due("nothing", x.write(0, 0, NOUGHT, 702), 1);
        holds("nothing", x, 0, 0, 99, 0);
    }

    private static void newCells() {
        says("T1", "New CELLS hold 0 (BOOLEANS false), by KINDS 8 .. 10 NOTHING", 2, 3);
        ColumnCasts x = Checks.rows(1);
        for (int kind = 0; kind < 11; kind++) {
            x.column(kind);
        }
        x.size(40);
        for (int kind = 0; kind < 11; kind++) {
            int answer = kind < 8 ? 100 + kind : 99;
            holds("row 0 of kind " + kind, x, kind, 0, answer, 0);
            holds("row 1 of kind " + kind, x, kind, 1, answer, 0);
            holds("row 39 of kind " + kind, x, kind, 39, answer, 0);
        }
    }

    private static void newCellsBehindOld() {
        says("T1", "New CELLS hold 0 (BOOLEANS false), by KINDS 8 .. 10 NOTHING", 2);
        String[] texts = {"z(1,1)", "b(7,7)", "c(7,7)", "s(7,7)", "i(7,7)", "l(7,7)", "f(7,7)", "d(7,7)", "w(7,7)", "o(i7,'a)", "n(a,a)"};
        ColumnCasts x = table(2, texts);
        x.size(1);
        x.size(2);
        for (int kind = 0; kind < 11; kind++) {
            holds("a row that came again, kind " + kind, x, kind, 1, kind < 8 ? 100 + kind : 99, 0);
        }
        x.size(0);
        due("cast without rows", x.cast(4, 10), 4);
        x.size(1);
        holds("new cell of a column that was cast", x, 4, 0, 99, 0);
    }

    private static void notThereAndGone() {
        says("T1", "A COLUMN that didn't come yet is NOT THERE; one that was dropped is GONE (its number is of none any more)", 3, 4);
        ColumnCasts x = new ColumnCasts();
        due("column 0 ahead of all", x.kindOf(0), NOTHING);
        x.column(3);
        due("column 0", x.kindOf(0), 3);
        due("column 1, the first that didn't come", x.kindOf(1), NOTHING);
        due("column 11, the last that didn't come", x.kindOf(11), NOTHING);
        x.drop(0);
        due("column 0, dropped", x.kindOf(0), OTHER);
        due("the next column", x.column(5), 1);
        due("column 0, still", x.kindOf(0), OTHER);
        due("column 1", x.kindOf(1), 5);
        due("column 2", x.kindOf(2), NOTHING);
    }

    private static void refusedColumns() {
        says("T1", "A call that is told a COLUMN refuses, in this order: NONE: no number 0 .. 11; NOTHING (-23): it is NOT THERE; OTHER (-22): it is GONE", 4, 5, 6, 8, 12, 15, 16, 18, 23, 25, 26, 27, 30);
        refusesColumns("drop", (x, c) -> x.drop(c));
        refusesColumns("kindOf", (x, c) -> x.kindOf(c));
        refusesColumns("ask", (x, c) -> x.ask(c, 0, 8));
        refusesColumns("write", (x, c) -> x.write(c, 0, 14, 7));
        refusesColumns("of", (x, c) -> x.of(c, 0));
        refusesColumns("keep", (x, c) -> x.keep(0, c, 4, 4, 0));
        refusesColumnsBut("key", (x, c) -> x.key(c, false));
        refusesColumnsBut("filter", (x, c) -> x.filter(c, 4, 4, 0));
        refusesColumns("group", (x, c) -> x.group(0, c, -1, 0));
        refusesColumns("loses", (x, c) -> x.loses(c, 4));
        refusesColumns("casts", (x, c) -> x.casts(c));
        refusesColumns("cast", (x, c) -> x.cast(c, 9));
        refusesColumns("spelled", (x, c) -> x.spelled(c, 0));
        ColumnCasts x = new ColumnCasts();
        due("column 0 of none", x.kindOf(0), NOTHING);
        due("column 11 of none", x.kindOf(11), NOTHING);
        due("column 12 of none", x.kindOf(12), NONE);
        due("column -1 of none", x.kindOf(-1), NONE);
        due("counted", Checks.refused(x), "0 0 2");
        ColumnCasts y = new ColumnCasts();
        for (int c = 0; c < 12; c++) {
            y.column(c % 11);
        }
        y.drop(11);
        due("column 11, gone", y.kindOf(11), OTHER);
        due("column 12 of 12", y.kindOf(12), NONE);
        due("column 10 of 12", y.kindOf(10), 10);
        due("counted, full", Checks.refused(y), "0 1 0");
    }

    private static void refusedFirstAndSecond() {
        says("T1", "A call that is told a COLUMN refuses, in this order: NONE: no number 0 .. 11; NOTHING (-23): it is NOT THERE; OTHER (-22): it is GONE", 9, 22, 24);
        refusesBoth("bring", (x, c, d) -> x.bring(c, 0, d, 1, 1));
        refusesBoth("pair", (x, c, d) -> x.pair(c, d, -1));
        refusesBoth("sum", (x, c, d) -> x.sum(0, c, 0, d));
    }

    private static void number() {
        says("T1", "NUMBER of a BOX: BOOLEAN 1, 0; BYTE, CHAR, SHORT, INT, LONG as it is; FLOAT its bits (an int's), DOUBLE its bits", 6, 7);
        for (int kind = 0; kind < 6; kind++) {
            for (long end : ENDS[kind]) {
                holds("kind " + kind, cells(new long[] {10 + kind, end}), 0, 0, 100 + kind, end);
            }
        }
        for (long v : new long[] {0, 1, -1, 4, -4, 6, (1 << 24) - 1, 1 << 24, LEAST, MOST}) {
            holds("float of " + v, cells(new long[] {16, v}), 0, 0, 106, bits((float) v / 4));
            holds("double of " + v, cells(new long[] {17, v}), 0, 0, 107, bits((double) v / 4));
        }
        holds("a float below 0 has an int's bits", cells(new long[] {16, -4}), 0, 0, 106, -1082130432);
    }

    private static void madeOf(int kind, long v, long number) {
        holds("kind " + kind + " of " + v, cells(new long[] {10 + kind, v}), 0, 0, 100 + kind, number);
    }

    private static void made() {
        says("T1", "A BOX of a KIND MADE of a long v: BOOLEAN whether v is odd; BYTE, CHAR, SHORT, INT its lowest bits; LONG v", 8);
        long[][] booleans = {{0, 0}, {1, 1}, {2, 0}, {-1, 1}, {-2, 0}, {MOST, 1}, {LEAST, 0}};
        long[][] bytes = {{127, 127}, {128, -128}, {-128, -128}, {-129, 127}, {255, -1}, {256, 0}, {MOST, -1}, {LEAST, 0}};
        long[][] chars = {{0, 0}, {-1, 65535}, {65535, 65535}, {65536, 0}, {MOST, 65535}, {LEAST, 0}};
        long[][] shorts = {{32767, 32767}, {32768, -32768}, {-32768, -32768}, {-32769, 32767}, {65535, -1}, {MOST, -1}, {LEAST, 0}};
        long[][] ints = {{MAX, MAX}, {MAX + 1L, MIN}, {MIN, MIN}, {MIN - 1L, MAX}, {(1L << 32) - 1, -1}, {1L << 32, 0}, {MOST, -1}};
        long[][] longs = {{MOST, MOST}, {LEAST, LEAST}, {0, 0}, {-1, -1}};
        long[][][] kinds = {booleans, bytes, chars, shorts, ints, longs};
        for (int kind = 0; kind < 6; kind++) {
            for (long[] each : kinds[kind]) {
                madeOf(kind, each[0], each[1]);
            }
        }
    }

    private static void madeToTheNearest() {
        says("T1", "FLOAT, DOUBLE what is nearest to v, and a quarter of that", 8);
        long float24 = 1L << 24;
        long double53 = 1L << 53;
        madeOf(6, 0, 0);
        madeOf(6, 1, bits(0.25f));
        madeOf(6, -1, bits(-0.25f));
        madeOf(6, float24, bits(4194304f));
        madeOf(6, float24 + 1, bits(4194304f));
        madeOf(6, float24 + 3, bits(4194305f));
        madeOf(6, -float24 - 1, bits(-4194304f));
        madeOf(6, MOST, bits(2305843009213693952f));
        madeOf(6, LEAST, bits(-2305843009213693952f));
        madeOf(6, (1L << 60) + (1L << 36) + 1, bits(288230410511450112f));
        madeOf(7, 0, 0);
        madeOf(7, 1, bits(0.25));
        madeOf(7, -1, bits(-0.25));
        madeOf(7, double53, bits(2251799813685248.0));
        madeOf(7, double53 + 1, bits(2251799813685248.0));
        madeOf(7, double53 + 3, bits(2251799813685249.0));
        madeOf(7, MOST, bits(2305843009213693952.0));
        madeOf(7, LEAST, bits(-2305843009213693952.0));
    }

    private static void madeWords() {
        says("T1", "A WORD MADE of v: 1 .. 26 one letter, 27 .. 702 two: those of (v less 27) by 26 (cut, a is 0) and of its rest", 8, 29, 30);
        int[] numbers = {1, 2, 26, 27, 28, 52, 53, 676, 677, 701, 702};
        String[] words = {"a", "b", "z", "aa", "ab", "az", "ba", "yz", "za", "zy", "zz"};
        for (int i = 0; i < numbers.length; i++) {
            ColumnCasts x = one(10);
            due("word of " + numbers[i], x.write(0, 0, WORD, numbers[i]), 1);
            due("word of " + numbers[i], Checks.spelled(x, 0), "n(" + words[i] + ")");
            due("read of " + words[i], Checks.read(x, "n(" + words[i] + ")"), 1);
            holds("word read as " + words[i], x, 1, 0, 110, numbers[i]);
        }
        due("word of 0", one(10).write(0, 0, WORD, 0), BAD);
        due("word of 703", one(10).write(0, 0, WORD, 703), BAD);
    }

    private static void widened() {
        says("T1", "A KIND WIDENS to itself; BYTE to SHORT, INT, LONG, FLOAT, DOUBLE; CHAR and SHORT to INT, LONG, FLOAT, DOUBLE;", 6, 8);
        for (int from = 0; from < 8; from++) {
            for (int to = 0; to < 8; to++) {
                due("ask of " + from + " as " + to, one(from).ask(0, 0, to), widens(from, to) ? 1 : OTHER);
                due("write of " + from + " into " + to, one(to).write(0, 0, from, 1), widens(from, to) ? 1 : OTHER);
                due("box of " + from + " into " + to, one(to).write(0, 0, 10 + from, 1), widens(from, to) ? 1 : OTHER);
            }
        }
        for (int from = 1; from < 6; from++) {
            for (int to = from; to < 6; to++) {
                for (long end : ENDS[from]) {
                    if (widens(from, to)) {
                        ColumnCasts x = one(to);
                        x.write(0, 0, from, end);
                        holds("kind " + from + " as " + to, x, 0, 0, 100 + to, end);
                    }
                }
            }
        }
    }

    /** What a cell of one kind is asked as another one. */
    private static void askedAs(int kind, long v, int as, long got) {
        ColumnCasts x = one(kind);
        x.write(0, 0, kind, v);
        due("ask of " + v + ", kind " + kind + " as " + as, x.ask(0, 0, as), 1);
        due("got of " + v + ", kind " + kind + " as " + as, x.got(), got);
        if (kind != as) {
            x.column(as);
            due("write of " + v + ", kind " + kind + " into " + as, x.write(1, 0, kind, v), 1);
            holds(v + ", kind " + kind + " in " + as, x, 1, 0, 100 + as, got);
        }
    }

    private static void widenedToTheNearest() {
        says("T1", "(to the nearest, where it can't be as it is)", 6, 8);
        askedAs(4, 1 << 24, 6, bits(16777216f));
        askedAs(4, (1 << 24) + 1, 6, bits(16777216f));
        askedAs(4, (1 << 24) + 3, 6, bits(16777220f));
        askedAs(4, MAX, 6, bits(2147483648f));
        askedAs(4, MIN, 6, bits(-2147483648f));
        askedAs(4, MAX, 7, bits(2147483647.0));
        askedAs(5, (1L << 53) + 1, 7, bits(9007199254740992.0));
        askedAs(5, (1L << 53) + 3, 7, bits(9007199254740996.0));
        askedAs(5, MOST, 7, bits(9223372036854775808.0));
        askedAs(5, LEAST, 7, bits(-9223372036854775808.0));
        askedAs(5, MOST, 6, bits(9223372036854775808f));
        askedAs(5, LEAST, 6, bits(-9223372036854775808f));
        // Once to the nearest, not by way of a double.
        askedAs(5, (1L << 60) + (1L << 36) + 1, 6, bits(1152921642045800448f));
        askedAs(6, (1 << 24) + 1, 7, bits(4194304.0));
        askedAs(6, -1, 7, bits(-0.25));
        askedAs(2, 65535, 6, bits(65535f));
        askedAs(1, -128, 7, bits(-128.0));
    }

    private static void asked() {
        says("T1", "To ASK a CELL as KIND 0 .. 7: refused, behind the COLUMN, the first that fits", 6);
        for (int kind = 0; kind < 11; kind++) {
            ColumnCasts x = Checks.rows(2);
            x.column(kind);
            for (int as = 0; as < 8; as++) {
                for (int r : BEYOND_TWO) {
                    due("kind " + kind + " as " + as + " at " + r, x.ask(0, r, as), kind < 8 ? BEYOND : OTHER);
                }
                boolean isTaken = kind < 8 && widens(kind, as);
                due("kind " + kind + " as " + as + " at 0", x.ask(0, 0, as), isTaken ? 1 : OTHER);
                due("kind " + kind + " as " + as + " at 1", x.ask(0, 1, as), isTaken ? 1 : OTHER);
            }
        }
        ColumnCasts x = table(1, "w(5)", "o(i5)", "n(a)");
        for (int c = 0; c < 3; c++) {
            due("other, whatever the cell holds", x.ask(c, 0, 4), OTHER);
        }
    }

    private static void askedWidened() {
        says("T1", "Else GOT is the NUMBER of what it WIDENS to", 6, 7);
        askedAs(0, 1, 0, 1);
        askedAs(0, 0, 0, 0);
        askedAs(1, -128, 3, -128);
        askedAs(1, 127, 4, 127);
        askedAs(2, 65535, 4, 65535);
        askedAs(2, 65535, 5, 65535);
        askedAs(3, -32768, 5, -32768);
        askedAs(4, MIN, 5, MIN);
        askedAs(4, -1, 6, bits(-1f));
        askedAs(4, 1, 7, bits(1.0));
        askedAs(5, LEAST, 5, LEAST);
        askedAs(7, 1, 7, bits(0.25));
    }

    private static void askedAsItIs() {
        says("T1", "As 8: BEYOND; GOT is the NUMBER of a BOX, 0 for NOTHING, for a WORD that of which it is MADE", 6, 7);
        for (int kind = 0; kind < 11; kind++) {
            ColumnCasts x = Checks.rows(2);
            x.column(kind);
            for (int r : BEYOND_TWO) {
                due("kind " + kind + " at " + r, x.ask(0, r, 8), BEYOND);
            }
            due("kind " + kind + " at 1", x.ask(0, 1, 8), kind < 8 ? 100 + kind : 99);
        }
        ColumnCasts x = cells(new long[] {WORD, 702}, new long[] {NOUGHT, 5}, new long[] {15, LEAST}, new long[] {WORD, 1});
        holds("the last word", x, 0, 0, 110, 702);
        holds("nothing", x, 0, 1, 99, 0);
        holds("the least long", x, 0, 2, 105, LEAST);
        holds("the first word", x, 0, 3, 110, 1);
    }

    private static void written() {
        says("T1", "To WRITE, as KIND 0 .. 7, a BOX of that KIND MADE of v: refused likewise, OTHER last", 8);
        for (int kind = 0; kind < 11; kind++) {
            ColumnCasts x = Checks.rows(2);
            x.column(kind);
            for (int as = 0; as < 8; as++) {
                for (int r : BEYOND_TWO) {
                    due("kind " + kind + " as " + as + " at " + r, x.write(0, r, as, 1), kind < 8 ? BEYOND : OTHER);
                }
                boolean isTaken = kind < 8 && widens(as, kind);
                due("kind " + kind + " as " + as + " at 0", x.write(0, 0, as, 1), isTaken ? 1 : OTHER);
                due("kind " + kind + " as " + as + " at 1", x.write(0, 1, as, 1), isTaken ? 1 : OTHER);
            }
        }
    }

    private static void writtenBoxes() {
        says("T1", "As 10 and KIND 0 .. 7, a BOX of that KIND into any COLUMN: BEYOND; OTHER", 8);
        for (int kind = 0; kind < 11; kind++) {
            ColumnCasts x = Checks.rows(2);
            x.column(kind);
            for (int box = 0; box < 8; box++) {
                for (int r : BEYOND_TWO) {
                    due("kind " + kind + ", box " + box + " at " + r, x.write(0, r, 10 + box, 1), BEYOND);
                }
                boolean isTaken = kind == 9 || kind == 8 && box == 4 || kind < 8 && widens(box, kind);
                due("kind " + kind + ", box " + box, x.write(0, 1, 10 + box, 4), isTaken ? 1 : OTHER);
                if (isTaken) {
                    due("held in " + kind + ", box " + box, x.ask(0, 1, 8), 100 + (kind < 8 ? kind : box));
                }
            }
        }
        ColumnCasts x = one(7);
        x.write(0, 0, 15, MOST);
        holds("a long in doubles is what it widens to", x, 0, 0, 107, bits(9223372036854775808.0));
    }

    private static void writtenNothingAndWords() {
        says("T1", "As 18 NOTHING, as 19 a WORD MADE of v: OTHER: the COLUMN's KIND is 0 .. 7; BEYOND; OTHER: a WORD, by KIND 8", 8);
        for (int kind = 0; kind < 11; kind++) {
            ColumnCasts x = Checks.rows(2);
            x.column(kind);
            for (int r : BEYOND_TWO) {
                due("nothing into " + kind + " at " + r, x.write(0, r, NOUGHT, 1), kind < 8 ? OTHER : BEYOND);
                due("a word into " + kind + " at " + r, x.write(0, r, WORD, 1), kind < 8 ? OTHER : BEYOND);
            }
            due("a word into " + kind, x.write(0, 1, WORD, 5), kind < 9 ? OTHER : 1);
            due("held by " + kind, x.ask(0, 1, 8), kind < 8 ? 100 + kind : kind == 8 ? 99 : 110);
            due("nothing into " + kind, x.write(0, 1, NOUGHT, 5), kind < 8 ? OTHER : 1);
            due("held by " + kind + " then", x.ask(0, 1, 8), kind < 8 ? 100 + kind : 99);
        }
    }
}
