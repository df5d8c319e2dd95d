/** Promises 28 to 33: texts, the image. */
final class EdgesOfTextCalls extends Edges {
    static void all() {
        feed();
        feedRefused();
        read();
        readFault();
        readFull();
        spelled();
        spelledRefused();
        image();
        imageAnew();
        undo();
        undoOfFull();
        undoRefused();
        count();
        countOfRefused();
        countRefused();
    }

    private static void feed() {
        says("28", "A sign (0 .. 127) comes behind THE TEXT's: how many it has");
        ColumnCasts x = new ColumnCasts();
        int bytes = 0;
        for (int sign = 0; sign < 100; sign++) {
            bytes++;
            due("feed of " + sign, x.feed(sign), bytes);
            due("bytes", x.count(7), bytes);
        }
        ColumnCasts y = new ColumnCasts();
        due("feed of 127", y.feed(127), 1);
        due("feed of 0", y.feed(0), 2);
        ColumnCasts z = busy();
        due("behind the others", z.feed(','), 6);
        Checks.feed(z, "12)");
        due("read", z.read(), 6);
        due("what was read", Checks.spelled(z, 6), "d(4,8,12)");
        due("the first of the next one", z.feed('i'), 1);
    }

    private static void feedRefused() {
        says("28", "BAD; FULL");
        for (int sign : new int[] {-1, 128, 256, MIN, MAX}) {
            refuses("feed of " + sign, x -> x.feed(sign), BAD);
            refuses("feed of " + sign + ", full", Edges::full, x -> x.feed(sign), BAD);
            refuses("feed of " + sign + " to none", ColumnCasts::new, x -> x.feed(sign), BAD);
        }
        for (int sign : new int[] {0, ')', 127}) {
            refuses("feed of " + sign + ", full", Edges::full, x -> x.feed(sign), FULL);
        }
        ColumnCasts x = new ColumnCasts();
        Checks.feed(x, "i".repeat(100));
        due("a byte more", x.feed('i'), FULL);
        due("a fault", x.read(), -11);
        due("a byte then", x.feed('i'), 1);
    }

    private static void read() {
        says("29", "THE TEXT, which is empty then (by a FAULT, by FULL, too), is a new COLUMN: its number; -10 less the FAULT");
        ColumnCasts x = Checks.rows(2);
        for (int c = 0; c < 12; c++) {
            due("read", Checks.read(x, "i(" + c + ")"), c);
            due("columns", x.count(1), c + 1);
            due("bytes", x.count(7), 0);
            due("kind", x.kindOf(c), 4);
            holds("row 0", x, c, 0, 104, c);
            holds("row 1", x, c, 1, 104, 0);
        }
        ColumnCasts y = busy();
        due("read", Checks.read(y, ",-8)"), TO_COME);
        due("read so", Checks.spelled(y, TO_COME), "d(4,8,-8)");
        due("got", y.got(), bits(2.0));
        due("rows", y.count(0), 3);
        due("view 0", Checks.viewed(y, 0), "[1, 2, 0]");
        due("view 1", Checks.viewed(y, 1), "[0, 2]");
        due("another", Checks.spelled(y, LONGS), "l(3,1,2)");
        due("the next one that comes", y.column(4), TO_COME + 1);
        ColumnCasts z = table(1, "i(5)");
        z.drop(0);
        due("behind one gone", Checks.read(z, "i(6)"), 1);
    }

    private static void readFault() {
        says("29", "THE TEXT, which is empty then (by a FAULT, by FULL, too), is a new COLUMN: its number; -10 less the FAULT");
        ColumnCasts x = busy();
        int refused = x.count(4) + x.count(5) + x.count(6);
        due("fault", x.read(), -15);
        due("bytes", x.count(7), 0);
        due("fault of none", x.read(), -10);
        due("columns", x.count(1), 6);
        due("no column", x.kindOf(TO_COME), NOTHING);
        due("refused", x.count(4) + x.count(5) + x.count(6), refused + 1);
        due("the next one", Checks.read(x, "i()"), TO_COME);
        ColumnCasts y = busy();
        y.read();
        due("what a fault leaves", State.of(y), State.of(withoutText()));
        ColumnCasts z = Checks.rows(3);
        due("a fault at 10", Checks.read(z, "i(123456,1x"), -20);
        due("a fault at 11", Checks.read(z, "i(123456,12x"), -21);
        due("a fault at 12", Checks.read(z, "i(123456,123x"), -22);
        due("a fault at 13", Checks.read(z, "i(123456,1234x"), -23);
        due("a fault is not refused", Checks.refused(z), "0 0 0");
        due("a fault ahead of many more", Checks.read(z, "i(" + "1".repeat(97) + ")"), -18);
    }

    private static void readFull() {
        says("29", "FULL: no FAULT, but 12 have come");
        ColumnCasts x = Checks.rows(1);
        for (int c = 0; c < 12; c++) {
            x.column(4);
        }
        due("a thirteenth", Checks.read(x, "i(5)"), FULL);
        due("bytes", x.count(7), 0);
        due("columns", x.count(1), 12);
        due("the last column", Checks.spelled(x, 11), "i(0)");
        due("a fault of a thirteenth", Checks.read(x, "i(5"), -13);
        due("a fault of a thirteenth", Checks.read(x, "i(5,"), -13);
        due("bytes", x.count(7), 0);
        x.drop(0);
        due("a thirteenth, one gone", Checks.read(x, "i(5)"), FULL);
        due("refused", Checks.refused(x), "0 0 0");
        ColumnCasts y = full();
        due("fault, full", y.read(), -15);
        Checks.feed(y, "d(4,8)");
        due("full", y.read(), FULL);
        due("bytes", y.count(7), 0);
        due("full, of none", y.read(), -10);
    }

    private static void spelled() {
        says("30", "Sign i of SPELLED; -5: there is none such");
        String text = "o(i5,'b,_)";
        for (int i = 0; i < text.length(); i++) {
            int place = i;
            asks("sign " + i, x -> x.spelled(ANYS, place), text.charAt(i));
        }
        for (int i : new int[] {-1, text.length(), text.length() + 1, 999, 1000, 1001, MIN, MAX}) {
            asks("sign " + i, x -> x.spelled(ANYS, i), NO_SUCH);
        }
        ColumnCasts none = table(0, "i()");
        due("the last of no rows", none.spelled(0, 2), ')');
        due("one behind it", none.spelled(0, 3), NO_SUCH);
        ColumnCasts all = table(40, "o()");
        due("the last of 40 rows", all.spelled(0, 81), ')');
        due("one behind it", all.spelled(0, 82), NO_SUCH);
        due("a short one behind a long one", none.spelled(0, 3), NO_SUCH);
        Checks.read(all, "i()");
        all.size(1);
        due("a short one behind a long one", all.spelled(1, 3), ')');
        due("a short one behind a long one", all.spelled(1, 4), NO_SUCH);
    }

    private static void spelledRefused() {
        says("30", "COLUMN");
        refusesColumns("spelled", (x, c) -> x.spelled(c, 0));
        refusesColumns("spelled, no sign", (x, c) -> x.spelled(c, -1));
    }

    private static void image() {
        says("31", "THE IMAGE is taken: how many ROWS");
        due("no rows", new ColumnCasts().image(), 0);
        due("40 rows", Checks.rows(40).image(), 40);
        ColumnCasts x = busy();
        ColumnCasts y = busy();
        due("image", x.image(), 3);
        due("again", x.image(), 3);
        y.image();
        due("the table stays", State.of(x), State.of(y));
        due("of the table as it is", State.ofTable(imaged()), State.ofTable(busy()));
    }

    private static ColumnCasts imaged() {
        ColumnCasts x = busy();
        x.image();
        return x;
    }

    private static void imageAnew() {
        says("31", "THE IMAGE is taken: how many ROWS");
        ColumnCasts x = table(1, "i(1)");
        x.image();
        x.write(0, 0, 4, 2);
        due("a second one", x.image(), 1);
        x.write(0, 0, 4, 3);
        x.undo();
        due("the later one", Checks.spelled(x, 0), "i(2)");
        x.size(0);
        due("of no rows", x.image(), 0);
        x.size(7);
        due("undone to no rows", x.undo(), 0);
        due("rows", x.count(0), 0);
    }

    private static void undo() {
        says("32", "All is as THE IMAGE: how many ROWS");
        ColumnCasts x = busy();
        String state = State.ofTable(busy());
        x.image();
        x.size(40);
        x.column(9);
        x.drop(LONGS);
        x.cast(LIKE_LONGS, 9);
        x.key(-1, false);
        x.filter(-1, 0, 0, 0);
        due("undo", x.undo(), 3);
        due("undone", State.ofTable(x), state);
        x.swap(0, 1);
        x.write(ANYS, 0, NOUGHT, 0);
        x.keep(0, LONGS, 3, 4, 0);
        due("undo once more", x.undo(), 3);
        due("undone once more", State.ofTable(x), state);
        due("undo of nothing", x.undo(), 3);
        due("undone, nothing", State.ofTable(x), state);
        ColumnCasts y = busy();
        due("undo", y.undo(), 3);
        due("columns", y.count(1), 3);
        due("keys", y.count(2), 2);
        due("filters", y.count(3), 1);
        due("a column that was dropped", Checks.spelled(y, 0), "i(1,2,3)");
        due("a column that came behind it", y.kindOf(DOUBLES), NOTHING);
        due("view 0", Checks.viewed(y, 0), "[0, 1, 2]");
        due("view 1", Checks.viewed(y, 1), "[0, 1, 2]");
        due("the next column", y.column(4), DOUBLES);
        due("cells of it", Checks.spelled(y, DOUBLES), "i(0,0,0)");
        due("bytes of the text", y.count(7), 5);
        due("got", y.got(), bits(2.0));
        ColumnCasts z = table(1, "i(5)", "o('a)");
        z.image();
        z.size(3);
        z.write(0, 2, 4, 9);
        z.write(1, 2, WORD, 9);
        due("undo", z.undo(), 1);
        due("rows that come again", z.size(3), 1);
        due("have new cells", Checks.spelled(z, 0) + Checks.spelled(z, 1), "i(5,0,0)o('a,_,_)");
        due("stand in view 0", Checks.viewed(z, 0), "[0, 1, 2]");
    }

    private static void undoOfFull() {
        says("32", "All is as THE IMAGE: how many ROWS");
        ColumnCasts x = Checks.rows(40);
        for (int c = 0; c < 12; c++) {
            x.column(4);
            x.write(c, 39, 4, c + 1);
        }
        for (int k = 0; k < 4; k++) {
            x.key(8 + k, true);
        }
        for (int f = 0; f < 6; f++) {
            x.filter(f, 2, 4, f);
        }
        x.drop(3);
        x.sort(0);
        x.keep(1, 11, 2, 4, 0);
        due("image", x.image(), 40);
        x.size(0);
        x.undo();
        due("rows", x.count(0), 40);
        for (int c = 0; c < 12; c++) {
            due("kind of " + c, x.kindOf(c), c == 3 ? OTHER : 4);
            due("the last cell of " + c, x.ask(c, 39, 8), c == 3 ? OTHER : 104);
            due("got of " + c, x.got(), c == 3 ? 3 : c + 1);
        }
        due("the first of view 0", x.viewed(0, 0), 39);
        due("the last of view 0", x.viewed(0, 39), 38);
        due("view 1", Checks.viewed(x, 1), "[39]");
        due("a key more", x.key(0, false), FULL);
        due("a filter more", x.filter(0, 1, 4, 1), FULL);
        due("a column more", x.column(4), FULL);
        due("run of view 1", x.run(1), 0);
        x.undo();
        x.view(1);
        due("sorted by the keys of the image", x.sort(1), 40);
        x.undo();
        due("view 1 again", Checks.viewed(x, 1), "[39]");
    }

    private static void undoRefused() {
        says("32", "STATE: there is none");
        refuses("a new one", ColumnCasts::new, x -> x.undo(), STATE);
        refuses("a table", () -> table(2, "i(1,2)", "o('a)"), x -> x.undo(), STATE);
        ColumnCasts x = table(1, "i(5)");
        due("undo", x.undo(), STATE);
        due("what it leaves", Checks.spelled(x, 0), "i(5)");
        due("image", x.image(), 1);
        due("undo then", x.undo(), 1);
        due("undo again", x.undo(), 1);
    }

    private static void count() {
        says("33", "How many: 0 ROWS, 1 COLUMNS that came, 2 KEYS, 3 FILTERS; 4 of what was refused by -21, 5 by -22, 6 by -23 (of all calls so far); 7 bytes of THE TEXT");
        int[] busy = {3, 6, 3, 2, 0, 0, 0, 5};
        int[] full = {3, 12, 4, 6, 0, 0, 0, 100};
        for (int what = 0; what < 8; what++) {
            int asked = what;
            asks("count(" + what + ")", x -> x.count(asked), busy[what]);
            due("count(" + what + "), full", full().count(what), full[what]);
            due("count(" + what + "), new", new ColumnCasts().count(what), 0);
        }
        due("count(0) of 40", Checks.rows(40).count(0), 40);
    }

    private static void countOfRefused() {
        says("33", "4 of what was refused by -21, 5 by -22, 6 by -23 (of all calls so far)");
        ColumnCasts x = busy();
        for (int n = 1; n <= 3; n++) {
            x.swap(0, 3);
            x.differs(3, 0);
            x.ask(LONGS, 3, 5);
            x.write(LONGS, 3, 5, 1);
            x.bring(LONGS, 0, LONGS, 0, 4);
            due("by -21", x.count(4), 5 * n);
            x.kindOf(GONE);
            x.ask(LONGS, 0, 4);
            x.write(LONGS, 0, 7, 1);
            x.bring(LONGS, 0, DOUBLES, 0, 1);
            due("by -22", x.count(5), 4 * n);
            x.kindOf(TO_COME);
            x.pair(LONGS, LAST_TO_COME, 0);
            x.key(TO_COME, true);
            due("by -23", x.count(6), 3 * n);
            x.kindOf(12);
            x.column(11);
            x.sort(2);
            x.cast(DOUBLES, 4);
            x.spelled(LONGS, -1);
            x.differs(0, 0);
        }
        due("all so far", Checks.refused(x), "15 12 9");
    }

    private static void countRefused() {
        says("33", "BAD");
        for (int what : new int[] {-1, 8, MIN, MAX}) {
            refuses("count(" + what + ")", x -> x.count(what), BAD);
            refuses("count(" + what + ") of a new one", ColumnCasts::new, x -> x.count(what), BAD);
        }
    }
}
