/** Promises 1 to 12: the table. */
public final class TableTest {
    /** By kind 0 .. 7 the kinds to which it widens, as bits. */
    private static final int[] WIDENINGS = {1, 0b11111010, 0b11110100, 0b11111000, 0b11110000, 0b11100000, 0b11000000, 0b10000000};
    private static final int MIN = Integer.MIN_VALUE, MAX = Integer.MAX_VALUE;

    private static void due(String what, long got, long want) {
        Checks.due(what, got, want);
    }

    private static void newObject() {
        ColumnCasts x = new ColumnCasts();
        for (int what = 0; what < 8; what++) {
            due("1: count " + what, x.count(what), 0);
        }
        due("1: got", x.got(), 0);
        due("1: kindOf 0", x.kindOf(0), ColumnCasts.NOTHING);
        due("1: viewed 0", x.viewed(0, -1), 0);
        due("1: viewed 1", x.viewed(1, -1), 0);
        due("1: sort, no keys", x.sort(0), ColumnCasts.STATE);
        due("1: undo, no image", x.undo(), ColumnCasts.STATE);
        ColumnCasts y = new ColumnCasts();
        x.size(3);
        due("1: an object of its own", y.count(0), 0);
    }

    private static void size() {
        ColumnCasts x = Checks.rows(3);
        x.column(4);
        x.column(9);
        x.column(0);
        x.write(0, 2, 4, 7);
        x.write(1, 2, 19, 5);
        x.write(2, 2, 0, 1);
        due("2: size 2", x.size(2), 3);
        due("2: size 40", x.size(40), 2);
        due("2: size 5", x.size(5), 40);
        Checks.due("2: new cells", Checks.spelled(x, 0), "i(0,0,0,0,0)");
        Checks.due("2: new cells of any kind", Checks.spelled(x, 1), "o(_,_,_,_,_)");
        Checks.due("2: new booleans", Checks.spelled(x, 2), "z(0,0,0,0,0)");
        due("2: size -1", x.size(-1), ColumnCasts.BAD);
        due("2: size 41", x.size(41), ColumnCasts.BAD);
        due("2: size at the ends", x.size(MIN) + x.size(MAX), 2 * ColumnCasts.BAD);
        due("2: what is bad changes nothing", x.size(0), 5);
        due("2: size 0", x.count(0), 0);
        due("2: no views", x.viewed(0, -1) + x.viewed(1, -1), 0);
    }

    private static void sizeOfViews() {
        ColumnCasts x = Checks.table(5, "i(3,1,3,1,3)");
        x.keep(0, 0, 1, 4, 3);
        x.key(0, false);
        x.sort(1);
        Checks.due("2: kept", Checks.viewed(x, 0), "[0, 2, 4]");
        x.size(3);
        Checks.due("2: rows behind are no more", Checks.viewed(x, 0), "[0, 2]");
        Checks.due("2: nor in a sorted view", Checks.viewed(x, 1), "[1, 0, 2]");
        x.size(3);
        Checks.due("2: like size", Checks.viewed(x, 0), "[0, 2]");
        x.size(5);
        Checks.due("2: new ones come behind", Checks.viewed(x, 0), "[0, 2, 3, 4]");
        Checks.due("2: in both views", Checks.viewed(x, 1), "[1, 0, 2, 3, 4]");
    }

    private static void column() {
        ColumnCasts x = Checks.rows(2);
        String[] texts = {"z(0,0)", "b(0,0)", "c(0,0)", "s(0,0)", "i(0,0)", "l(0,0)", "f(0,0)", "d(0,0)", "w(_,_)", "o(_,_)", "n(_,_)"};
        for (int kind = 0; kind < 11; kind++) {
            due("3: column " + kind, x.column(kind), kind);
            Checks.due("3: new cells of kind " + kind, Checks.spelled(x, kind), texts[kind]);
        }
        due("3: column -1", x.column(-1), ColumnCasts.BAD);
        due("3: column 11", x.column(11), ColumnCasts.BAD);
        x.drop(3);
        due("3: numbers anew behind a drop", x.column(5), 11);
        due("3: full", x.column(5), ColumnCasts.FULL);
        due("3: bad ahead of full", x.column(MIN), ColumnCasts.BAD);
        due("3: still 12", x.count(1), 12);
    }

    private static void drop() {
        ColumnCasts x = Checks.rows(1);
        x.column(6);
        x.column(10);
        due("4: drop 1", x.drop(1), 10);
        due("4: gone", x.drop(1), ColumnCasts.OTHER);
        due("4: drop 0", x.drop(0), 6);
        due("4: not there", x.drop(2), ColumnCasts.NOTHING);
        due("4: not there at the end", x.drop(11), ColumnCasts.NOTHING);
        due("4: no number 12", x.drop(12), ColumnCasts.NONE);
        due("4: no number -1", x.drop(-1), ColumnCasts.NONE);
        due("4: no number MIN", x.drop(MIN), ColumnCasts.NONE);
        due("4: both came", x.count(1), 2);
        Checks.due("4: refused", Checks.refused(x), "0 1 2");
    }

    private static void kindOf() {
        ColumnCasts x = Checks.withGone(1);
        due("5: kindOf 1", x.kindOf(1), 4);
        due("5: behind a cast", x.cast(1, 7) + x.kindOf(1), 4 + 7);
        due("5: gone", x.kindOf(0), ColumnCasts.OTHER);
        due("5: not there", x.kindOf(2), ColumnCasts.NOTHING);
        due("5: no number", x.kindOf(12), ColumnCasts.NONE);
        due("5: no number MAX", x.kindOf(MAX), ColumnCasts.NONE);
    }

    private static void asked(ColumnCasts x, int c, int r, int as, long got) {
        due("6: ask " + c + " " + r + " " + as, x.ask(c, r, as), 1);
        due("7: got by ask " + c + " " + r + " " + as, x.got(), got);
    }

    private static void asked8(ColumnCasts x, int c, int r, int answer, long got) {
        due("6: ask " + c + " " + r + " 8", x.ask(c, r, 8), answer);
        due("7: got by ask " + c + " " + r + " 8", x.got(), got);
    }

    private static void ask() {
        for (int kind = 0; kind < 8; kind++) {
            ColumnCasts x = Checks.rows(2);
            x.column(kind);
            for (int as = 0; as < 8; as++) {
                boolean isWidened = (WIDENINGS[kind] >> as & 1) != 0;
                due("6: kind " + kind + " as " + as, x.ask(0, 1, as), isWidened ? 1 : ColumnCasts.OTHER);
                due("6: beyond ahead of the kind", x.ask(0, 2, as), ColumnCasts.BEYOND);
            }
        }
        for (int kind = 8; kind < 11; kind++) {
            ColumnCasts x = Checks.rows(2);
            x.column(kind);
            for (int as = 0; as < 8; as++) {
                due("6: other ahead of beyond", x.ask(0, 2, as), ColumnCasts.OTHER);
            }
            due("6: as 8 beyond", x.ask(0, 2, 8), ColumnCasts.BEYOND);
            due("6: as 8 beyond -1", x.ask(0, -1, 8), ColumnCasts.BEYOND);
            due("6: as 8", x.ask(0, 1, 8), 99);
        }
    }

    private static void askRefused() {
        ColumnCasts x = Checks.withGone(2);
        due("6: as 9", x.ask(1, 0, 9), ColumnCasts.BAD);
        due("6: as -1", x.ask(1, 0, -1), ColumnCasts.BAD);
        due("6: bad ahead of beyond", x.ask(1, 2, MAX), ColumnCasts.BAD);
        due("6: gone ahead of bad", x.ask(0, 0, 9), ColumnCasts.OTHER);
        due("6: not there ahead of bad", x.ask(2, 0, 9), ColumnCasts.NOTHING);
        due("6: no number ahead of bad", x.ask(-1, 0, 9), ColumnCasts.NONE);
        due("6: beyond MIN", x.ask(1, MIN, 4), ColumnCasts.BEYOND);
        due("6: beyond MAX", x.ask(1, MAX, 8), ColumnCasts.BEYOND);
        Checks.due("6: refused", Checks.refused(x), "2 1 1");
    }

    private static void got() {
        ColumnCasts x = Checks.table(4, "b(-5,127,-128)", "c(-1,97)", "l(-999999)", "f(4,-4,6,1)", "d(4,-4,6,1)", "i(-7)",
            "o(z1,'b,'ba,_)", "w(_,-3)", "n(z,zz)");
        asked(x, 0, 0, 1, -5);
        asked(x, 0, 0, 3, -5);
        asked(x, 0, 0, 6, Float.floatToIntBits(-5f));
        asked(x, 0, 1, 7, Double.doubleToLongBits(127));
        asked(x, 1, 0, 2, 65535);
        asked(x, 1, 0, 4, 65535);
        asked(x, 2, 0, 5, -999999);
        asked(x, 3, 0, 6, 1065353216);
        asked(x, 3, 1, 6, -1082130432);
        asked(x, 3, 2, 7, 4609434218613702656L);
        asked(x, 4, 0, 7, 4607182418800017408L);
        asked(x, 4, 1, 7, -4616189618054758400L);
        asked8(x, 4, 3, 107, Double.doubleToLongBits(0.25));
        asked8(x, 3, 3, 106, Float.floatToIntBits(0.25f));
        asked8(x, 5, 0, 104, -7);
        asked8(x, 6, 0, 100, 1);
        asked8(x, 6, 1, 110, 2);
        asked8(x, 6, 2, 110, 53);
        asked8(x, 6, 3, 99, 0);
        asked8(x, 7, 1, 104, -3);
        asked8(x, 7, 0, 99, 0);
        asked8(x, 8, 0, 110, 26);
        asked8(x, 8, 1, 110, 702);
        due("7: refused", x.ask(5, 9, 4) + x.ask(5, 0, 0) + x.ask(9, 0, 0) + x.ask(5, 0, 9), -21 - 22 - 23 - 2);
        due("7: got stays", x.got(), 702);
        due("7: kindOf changes it not", x.kindOf(0) + x.got(), 703);
    }

    private static void writtenAs(int kind, int as, long v, long want) {
        ColumnCasts x = Checks.rows(1);
        x.column(kind);
        due("8: write by kind " + kind + " as " + as + " " + v, x.write(0, 0, as, v), 1);
        int held = kind < 8 ? kind : as == 18 ? -1 : as == 19 ? 10 : as - 10;
        due("8: held by kind " + kind + " as " + as, x.ask(0, 0, 8), 100 + held);
        due("8: written by kind " + kind + " as " + as + " " + v, x.got(), want);
    }

    private static void made() {
        writtenAs(0, 0, -3, 1);
        writtenAs(0, 0, 2, 0);
        writtenAs(1, 1, 128, -128);
        writtenAs(2, 2, -1, 65535);
        writtenAs(2, 2, 65536 + 7, 7);
        writtenAs(3, 3, 32768, -32768);
        writtenAs(3, 1, 255, -1);
        writtenAs(4, 4, 1L << 31, MIN);
        writtenAs(4, 2, -1, 65535);
        writtenAs(5, 5, Long.MIN_VALUE, Long.MIN_VALUE);
        writtenAs(5, 4, (1L << 32) + 9, 9);
        writtenAs(6, 6, 5, Float.floatToIntBits(1.25f));
        writtenAs(6, 6, Long.MAX_VALUE, Float.floatToIntBits(2305843009213693952f));
        writtenAs(6, 6, (1L << 24) + 1, Float.floatToIntBits(4194304f));
        writtenAs(6, 6, (1L << 24) + 3, Float.floatToIntBits(4194305f));
        writtenAs(6, 4, (1L << 24) + 1, Float.floatToIntBits(16777216f));
        writtenAs(6, 5, (1L << 60) + (1L << 36) + 1, Float.floatToIntBits((float) ((1L << 60) + (1L << 36) + 1)));
        writtenAs(7, 7, -5, Double.doubleToLongBits(-1.25));
        writtenAs(7, 7, Long.MIN_VALUE, Double.doubleToLongBits(-2305843009213693952.0));
        writtenAs(7, 7, (1L << 53) + 1, Double.doubleToLongBits(2251799813685248.0));
        writtenAs(7, 5, Long.MAX_VALUE, Double.doubleToLongBits(9223372036854775808.0));
        writtenAs(7, 6, (1L << 24) + 1, Double.doubleToLongBits(4194304.0));
        writtenAs(7, 6, 0, 0);
        writtenAs(7, 17, 3, Double.doubleToLongBits(0.75));
        writtenAs(7, 15, -2, Double.doubleToLongBits(-2.0));
        writtenAs(8, 14, -2, -2);
        writtenAs(9, 12, -2, 65534);
        writtenAs(9, 18, 9, 0);
        writtenAs(9, 19, 702, 702);
        writtenAs(10, 19, 1, 1);
        writtenAs(10, 18, Long.MAX_VALUE, 0);
    }

    private static void write() {
        for (int kind = 0; kind < 11; kind++) {
            ColumnCasts x = Checks.rows(1);
            x.column(kind);
            for (int as = 0; as < 8; as++) {
                boolean isWidened = kind < 8 && (WIDENINGS[as] >> kind & 1) != 0;
                boolean isTaken = isWidened || kind == 8 && as == 4 || kind == 9;
                int answer = x.write(0, 0, as, 1);
                due("8: kind " + kind + " as " + as, answer, isWidened ? 1 : ColumnCasts.OTHER);
                answer = x.write(0, 0, as + 10, 1);
                due("8: kind " + kind + " as " + (as + 10), answer, isTaken ? 1 : ColumnCasts.OTHER);
                answer = x.write(0, 1, as, 1);
                due("8: no row, kind " + kind + " as " + as, answer, kind < 8 ? ColumnCasts.BEYOND : ColumnCasts.OTHER);
                answer = x.write(0, -1, as + 10, 1);
                due("8: no row, kind " + kind + " as " + (as + 10), answer, ColumnCasts.BEYOND);
            }
            due("8: kind " + kind + " as 18", x.write(0, 0, 18, 1), kind < 8 ? ColumnCasts.OTHER : 1);
            due("8: kind " + kind + " as 19", x.write(0, 0, 19, 1), kind < 9 ? ColumnCasts.OTHER : 1);
            due("8: no row, kind " + kind + " as 18", x.write(0, 1, 18, 1), kind < 8 ? ColumnCasts.OTHER : ColumnCasts.BEYOND);
            due("8: no row, kind " + kind + " as 19", x.write(0, 1, 19, 1), kind < 8 ? ColumnCasts.OTHER : ColumnCasts.BEYOND);
        }
    }

    private static void writeAnew() {
        ColumnCasts x = Checks.rows(1);
        x.column(9);
        x.write(0, 0, 12, 97);
        due("8: the box keeps its kind", x.ask(0, 0, 8), 102);
        x.write(0, 0, 19, 97);
        due("8: then a word", x.ask(0, 0, 8), 110);
        x.write(0, 0, 17, 97);
        due("8: then a double", x.ask(0, 0, 8), 107);
        x.write(0, 0, 18, 97);
        due("8: then nothing", x.ask(0, 0, 8), 99);
        due("8: its number", x.got(), 0);
        x.write(0, 0, 10, 97);
        due("8: then a boolean", x.ask(0, 0, 8), 100);
        due("8: that is true", x.got(), 1);
    }

    private static void writeRefused() {
        ColumnCasts x = Checks.withGone(2);
        x.column(10);
        for (int as : new int[] {-1, 8, 9, 20, MIN, MAX}) {
            due("8: as " + as, x.write(1, 0, as, 1), ColumnCasts.BAD);
            due("8: gone ahead of as " + as, x.write(0, 0, as, 1), ColumnCasts.OTHER);
        }
        for (long v : new long[] {0, 703, -1, Long.MIN_VALUE, (1L << 32) + 1}) {
            due("8: word of " + v, x.write(2, 0, 19, v), ColumnCasts.BAD);
            due("8: bad ahead of other, word of " + v, x.write(1, 9, 19, v), ColumnCasts.BAD);
        }
        due("8: not there ahead of bad", x.write(3, 0, 8, 1), ColumnCasts.NOTHING);
        due("8: no number ahead of bad", x.write(12, 0, 8, 1), ColumnCasts.NONE);
        due("8: beyond MAX", x.write(1, MAX, 4, 1), ColumnCasts.BEYOND);
        due("8: beyond MIN", x.write(1, MIN, 14, 1), ColumnCasts.BEYOND);
        due("8: refused for its kind", x.write(1, 0, 5, 1), ColumnCasts.OTHER);
        Checks.due("8: what is refused changes nothing", Checks.spelled(x, 1), "i(0,0)");
        Checks.due("8: nor notes", Checks.spelled(x, 2), "n(_,_)");
    }

    private static void bring() {
        ColumnCasts x = Checks.table(5, "i(1,2,3,4,5)", "i(6,7,8,9,10)", "l(1)", "o(i1,'b,_,z1,d3)", "o()");
        due("9: bring", x.bring(0, 1, 1, 2, 3), 3);
        Checks.due("9: brought", Checks.spelled(x, 1), "i(6,7,2,3,4)");
        Checks.due("9: where it came from", Checks.spelled(x, 0), "i(1,2,3,4,5)");
        due("9: within a column", x.bring(0, 0, 0, 1, 4), 4);
        Checks.due("9: as they all were", Checks.spelled(x, 0), "i(1,1,2,3,4)");
        due("9: the other way", x.bring(0, 2, 0, 0, 3), 3);
        Checks.due("9: as they all were, the other way", Checks.spelled(x, 0), "i(2,3,4,3,4)");
        due("9: of any kind", x.bring(3, 0, 4, 0, 5), 5);
        Checks.due("9: whatever they hold", Checks.spelled(x, 4), "o(i1,'b,_,z1,d3)");
        due("9: none at the end", x.bring(0, 5, 1, 5, 0), 0);
        due("9: unlike kinds", x.bring(0, 9, 2, 9, 9), ColumnCasts.OTHER);
        int[][] beyond = {{-1, 0, 1}, {0, -1, 1}, {0, 0, -1}, {0, 0, 6}, {1, 0, 5}, {0, 1, 5}, {6, 0, 0}, {0, 6, 0},
            {MAX, 0, 1}, {1, 0, MAX}, {0, 1, MAX}, {MAX, 1, MAX}, {MIN, 0, 0}, {0, MIN, MIN}, {5, 0, 1}, {5, 0, MAX}};
        for (int[] each : beyond) {
            due("9: beyond " + each[0] + " " + each[1] + " " + each[2], x.bring(0, each[0], 1, each[1], each[2]), ColumnCasts.BEYOND);
        }
        Checks.due("9: nothing changed", Checks.spelled(x, 1), "i(6,7,2,3,4)");
        Checks.due("9: refused", Checks.refused(x), beyond.length + " 1 0");
    }

    private static void bringRefused() {
        ColumnCasts x = Checks.withGone(2);
        due("9: gone first", x.bring(0, 0, 12, 0, 1), ColumnCasts.OTHER);
        due("9: gone second", x.bring(1, 0, 0, 0, 1), ColumnCasts.OTHER);
        due("9: not there first", x.bring(2, 0, -1, 0, 1), ColumnCasts.NOTHING);
        due("9: not there second", x.bring(1, 0, 3, 0, 1), ColumnCasts.NOTHING);
        due("9: no number first", x.bring(12, 0, 0, 0, 1), ColumnCasts.NONE);
        due("9: no number second", x.bring(1, 0, -1, 0, 1), ColumnCasts.NONE);
        Checks.due("9: each counts once", Checks.refused(x), "0 2 2");
    }

    private static void swap() {
        ColumnCasts x = Checks.table(3, "i(1,2,3)", "o('a,_,d5)", "n(x,y,z)");
        x.drop(2);
        due("10: swap", x.swap(0, 2), 2);
        Checks.due("10: swapped", Checks.spelled(x, 0), "i(3,2,1)");
        Checks.due("10: swapped of any kind", Checks.spelled(x, 1), "o(d5,_,'a)");
        due("10: with itself", x.swap(1, 1), 2);
        Checks.due("10: views stay", Checks.viewed(x, 0), "[0, 1, 2]");
        due("10: beyond", x.swap(0, 3), ColumnCasts.BEYOND);
        due("10: beyond, the first", x.swap(3, 0), ColumnCasts.BEYOND);
        due("10: beyond -1", x.swap(-1, 0), ColumnCasts.BEYOND);
        due("10: beyond, the second -1", x.swap(0, -1), ColumnCasts.BEYOND);
        due("10: beyond, both", x.swap(MIN, MAX), ColumnCasts.BEYOND);
        Checks.due("10: refused", Checks.refused(x), "5 0 0");
        due("10: no columns", Checks.rows(2).swap(0, 1), 0);
    }

    private static void differs() {
        ColumnCasts x = Checks.table(4, "i(1,1,1,1)", "i(1,2,1,1)", "o(i1,l1,i1,_)", "n(a,a,a,a)");
        due("11: by column 1", x.differs(0, 1), 1);
        due("11: by none", x.differs(0, 2), -5);
        due("11: by nothing", x.differs(0, 3), 2);
        x.drop(1);
        due("11: by the kind of a box, column 1 gone", x.differs(0, 1), 2);
        x.write(3, 2, 18, 0);
        due("11: a word and nothing", x.differs(2, 0), 3);
        due("11: with itself", x.differs(1, 1), -5);
        x.write(0, 1, 4, 9);
        due("11: by the first", x.differs(0, 1), 0);
        due("11: by the first, the other way", x.differs(1, 0), 0);
        due("11: beyond", x.differs(4, 0), ColumnCasts.BEYOND);
        due("11: beyond, the second", x.differs(0, 4), ColumnCasts.BEYOND);
        due("11: beyond -1", x.differs(-1, -1), ColumnCasts.BEYOND);
        Checks.due("11: refused", Checks.refused(x), "3 0 0");
    }

    private static void of() {
        ColumnCasts x = Checks.table(8, "o(_,'a,i1,l1,d4,z1,i1,_)", "i(3,3,2,5,4,4,4,9)", "n(a,aa,b,ab,_,_,c,c)", "o(z1,z0,i1,s1,d4,f4,d3,c1)");
        due("12: nothing", x.of(0, 0), 2);
        due("12: none hold nothing", x.of(1, 0), 0);
        due("12: unlike", x.of(0, 1), 6);
        due("12: unlike numbers", x.of(1, 1), 5);
        due("12: unlike words", x.of(2, 1), 6);
        due("12: rank of numbers", x.of(1, 2), 5);
        due("12: rank of words", x.of(2, 2), 5);
        due("12: rank of unlike kinds", x.of(3, 2), 3);
        due("12: rank of all", x.of(0, 2), 4);
        due("12: bad 3", x.of(0, 3), ColumnCasts.BAD);
        due("12: bad -1", x.of(0, -1), ColumnCasts.BAD);
        due("12: not there ahead of bad", x.of(4, 3), ColumnCasts.NOTHING);
        due("12: no number ahead of bad", x.of(12, 3), ColumnCasts.NONE);
        x.drop(0);
        due("12: gone ahead of bad", x.of(0, 3), ColumnCasts.OTHER);
        x.size(0);
        due("12: no rows", x.of(1, 0) + x.of(1, 1) + x.of(1, 2), 0);
    }

    /** Twelve columns of forty rows: as many as there may be. */
    private static void fullTable() {
        ColumnCasts x = Checks.rows(40);
        for (int c = 0; c < 12; c++) {
            x.column(c % 11);
        }
        due("11: 12 columns", x.differs(0, 39), -5);
        due("10: 12 columns", x.swap(0, 39), 12);
        due("2: 12 columns", x.size(39), 40);
        due("2: 12 columns again", x.size(40), 39);
        x.write(11, 39, 0, 1);
        due("11: the last cell of all", x.differs(39, 38), 11);
        due("12: of it", x.of(11, 1), 2);
        due("12: nothing in 40 rows", x.of(10, 0), 40);
        due("12: rank in 40 rows", x.of(10, 2), 39);
        due("9: 40 rows", x.bring(11, 0, 0, 0, 40), 40);
        due("11: brought", x.differs(39, 38), 0);
        x.ask(0, 39, 0);
        due("7: the last row", x.got(), 1);
    }

    /** Cells of rows that are no more do not count. */
    private static void ofWhatIsLeft() {
        ColumnCasts x = Checks.table(5, "o(i1,i2,i3,_,i9)", "i(1,2,3,9,1)");
        x.size(3);
        due("12: nothing", x.of(0, 0), 0);
        due("12: unlike", x.of(1, 1), 3);
        due("12: not ahead", x.of(1, 2), 2);
    }

    private static void rankOfWords() {
        ColumnCasts x = Checks.table(12, "n(a,aa,ab,ay,az,b,ba,bb,y,z,za,zz)", "n(zz,za,z,y,bb,ba,b,az,ay,ab,aa,a)");
        due("12: words as in a book", x.of(0, 2), 11);
        due("12: the other way about", x.of(1, 2), 0);
    }

    /** Longs that are like as doubles: the lesser one is ahead. */
    private static void rankOfLongs() {
        ColumnCasts x = Checks.rows(3);
        x.column(5);
        x.write(0, 0, 5, Long.MAX_VALUE);
        x.write(0, 1, 5, Long.MAX_VALUE - 1);
        x.write(0, 2, 5, Long.MAX_VALUE - 2);
        due("12: each is ahead", x.of(0, 2), 0);
        due("12: each is unlike", x.of(0, 1), 3);
        x.column(9);
        x.write(1, 0, 15, Long.MAX_VALUE);
        x.write(1, 1, 15, Long.MAX_VALUE - 1);
        x.write(1, 2, 17, 0);
        due("12: so of any kind", x.of(1, 2), 0);
    }

    public static void main(String[] args) {
        newObject();
        size();
        sizeOfViews();
        column();
        drop();
        kindOf();
        ask();
        askRefused();
        got();
        made();
        write();
        writeAnew();
        writeRefused();
        bring();
        bringRefused();
        swap();
        differs();
        of();
        fullTable();
        ofWhatIsLeft();
        rankOfWords();
        rankOfLongs();
        Checks.end();
    }
}
