/** Promises 1 to 12: the table. */
final class EdgesOfTableCalls extends Edges {
    private static final int[] NO_ROWS = {-1, 3, -2, 40, MIN, MAX};
    private static final String LETTERS = "zbcsilfdwon";

    static void all() {
        newObject();
        size();
        sizeRefused();
        rowsThatGo();
        rowsThatCome();
        column();
        columnsAnew();
        columnRefused();
        drop();
        dropRefused();
        kindOf();
        ask();
        askRefused();
        got();
        write();
        writeRefused();
        bring();
        bringOver();
        bringRefused();
        bringBeyond();
        swap();
        swapRefused();
        differs();
        differsRefused();
        of();
        ofRefused();
    }

    private static void newObject() {
        says("1", "No ROWS, no COLUMNS");
        busy();
        ColumnCasts x = new ColumnCasts();
        for (int what = 0; what < 8; what++) {
            due("count(" + what + ")", x.count(what), 0);
        }
        due("got", x.got(), 0);
        due("view 0", x.viewed(0, -1), 0);
        due("view 1", x.viewed(1, -1), 0);
        due("differs", x.differs(0, 0), BEYOND);
        due("column 0", x.kindOf(0), NOTHING);
        due("sort", x.sort(0), STATE);
        due("order", x.order(0, -1), 0);
        due("looked", x.looked(1), 0);
        due("run", x.run(1), 0);
        due("undo", x.undo(), STATE);
        due("read", x.read(), -10);
        due("the first column", x.column(0), 0);
        due("another object", new ColumnCasts().count(1), 0);
    }

    private static void size() {
        says("2", "THE TABLE has n ROWS: how many it had");
        ColumnCasts x = new ColumnCasts();
        int had = 0;
        for (int n : new int[] {0, 1, 1, 40, 39, 40, 2, 0, 0, 40, 0}) {
            due("size " + n, x.size(n), had);
            due("rows", x.count(0), n);
            due("view 0", x.viewed(0, -1), n);
            due("view 1", x.viewed(1, -1), n);
            had = n;
        }
    }

    private static void sizeRefused() {
        says("2", "BAD: n");
        for (int n : new int[] {-1, 41, MIN, MAX}) {
            refuses("size " + n, x -> x.size(n), BAD);
            refuses("size " + n + " of none", ColumnCasts::new, x -> x.size(n), BAD);
        }
    }

    private static void rowsThatGo() {
        says("2", "Those behind are no more (in VIEWS, too)");
        ColumnCasts x = table(4, "i(3,1,2,0)");
        x.key(0, false);
        x.filter(0, 4, 4, 0);
        x.sort(0);
        x.keep(1, 0, 2, 4, 0);
        due("size 3", x.size(3), 4);
        due("view 0, sorted", Checks.viewed(x, 0), "[1, 2, 0]");
        due("view 1, kept", Checks.viewed(x, 1), "[0, 1, 2]");
        due("cells", Checks.spelled(x, 0), "i(3,1,2)");
        due("row 3", x.ask(0, 3, 8), BEYOND);
        due("size 1", x.size(1), 3);
        due("view 0", Checks.viewed(x, 0), "[0]");
        due("view 1", Checks.viewed(x, 1), "[0]");
        due("size 0", x.size(0), 1);
        due("view 0", Checks.viewed(x, 0), "[]");
        due("view 1", Checks.viewed(x, 1), "[]");
        due("cells", Checks.spelled(x, 0), "i()");
        due("keys stay", x.count(2), 1);
        due("filters stay", x.count(3), 1);
        due("columns stay", x.count(1), 1);
    }

    private static void rowsThatCome() {
        says("2", "new ones come with new CELLS, behind the others in both VIEWS");
        ColumnCasts x = table(3, "i(3,1,2)", "w(7,8,9)");
        x.key(0, false);
        x.sort(0);
        x.keep(1, 0, 1, 4, 2);
        due("size 5", x.size(5), 3);
        due("view 0, sorted", Checks.viewed(x, 0), "[1, 2, 0, 3, 4]");
        due("view 1, kept", Checks.viewed(x, 1), "[2, 3, 4]");
        due("cells", Checks.spelled(x, 0), "i(3,1,2,0,0)");
        due("cells", Checks.spelled(x, 1), "w(7,8,9,_,_)");
        due("the same once more", x.size(5), 5);
        due("view 1 once more", Checks.viewed(x, 1), "[2, 3, 4]");
        due("size 2", x.size(2), 5);
        due("size 4", x.size(4), 2);
        due("cells that came again", Checks.spelled(x, 0), "i(3,1,0,0)");
        due("cells that came again", Checks.spelled(x, 1), "w(7,8,_,_)");
        due("view 0", Checks.viewed(x, 0), "[1, 0, 2, 3]");
        due("view 1", Checks.viewed(x, 1), "[2, 3]");
        due("size 40", x.size(40), 4);
        due("the last one of view 0", x.viewed(0, 39), 39);
        due("the last one of view 1", x.viewed(1, 37), 39);
    }

    private static void column() {
        says("3", "A COLUMN of a KIND (0 .. 10), all CELLS new: its number");
        ColumnCasts x = Checks.rows(2);
        for (int kind = 0; kind < 11; kind++) {
            due("column of kind " + kind, x.column(kind), kind);
            due("columns", x.count(1), kind + 1);
            String item = kind < 8 ? "0" : "_";
            due("cells", Checks.spelled(x, kind), LETTERS.charAt(kind) + "(" + item + "," + item + ")");
        }
        due("the twelfth", x.column(0), 11);
        due("a column of no rows", new ColumnCasts().column(10), 0);
    }

    private static void columnsAnew() {
        says("3", "A COLUMN of a KIND (0 .. 10), all CELLS new: its number");
        for (int kind = 0; kind < 11; kind++) {
            ColumnCasts x = Checks.rows(2);
            x.image();
            Checks.read(x, "o(i7,'a)");
            x.undo();
            due("a column that came again", x.column(kind), 0);
            String item = kind < 8 ? "0" : "_";
            due("cells of a column that came again", Checks.spelled(x, 0), LETTERS.charAt(kind) + "(" + item + "," + item + ")");
        }
        ColumnCasts y = Checks.rows(1);
        y.image();
        y.column(4);
        y.drop(0);
        y.undo();
        due("one that was gone came again", y.column(5), 0);
        due("kind of it", y.kindOf(0), 5);
    }

    private static void columnRefused() {
        says("3", "BAD; FULL: 12 have come");
        for (int kind : new int[] {-1, 11, MIN, MAX}) {
            refuses("kind " + kind, x -> x.column(kind), BAD);
            refuses("kind " + kind + ", full", Edges::full, x -> x.column(kind), BAD);
        }
        for (int kind = 0; kind < 11; kind++) {
            int told = kind;
            refuses("kind " + kind + ", full", Edges::full, x -> x.column(told), FULL);
        }
    }

    private static void drop() {
        says("4", "A COLUMN is GONE: its KIND");
        ColumnCasts x = Checks.rows(1);
        for (int kind = 0; kind < 11; kind++) {
            x.column(kind);
        }
        for (int kind = 0; kind < 11; kind++) {
            due("drop of " + kind, x.drop(kind), kind);
            due(kind + ", gone", x.kindOf(kind), OTHER);
            if (kind < 10) {
                due("the one behind " + kind, x.kindOf(kind + 1), kind + 1);
            }
        }
        due("columns that came", x.count(1), 11);
        due("columns there are", x.swap(0, 0), 0);
        ColumnCasts y = table(1, "i(7)");
        y.cast(0, 9);
        due("drop of one that was cast", y.drop(0), 9);
        ColumnCasts z = busy();
        due("drop", z.drop(BOXES), 8);
        due("rows", z.count(0), 3);
        due("view 0", Checks.viewed(z, 0), "[1, 2, 0]");
        due("view 1", Checks.viewed(z, 1), "[0, 2]");
        due("another column", Checks.spelled(z, LONGS), "l(3,1,2)");
    }

    private static void dropRefused() {
        says("4", "COLUMN");
        refusesColumns("drop", (x, c) -> x.drop(c));
        ColumnCasts x = one(3);
        due("drop", x.drop(0), 3);
        due("again", x.drop(0), OTHER);
        due("counted", Checks.refused(x), "0 1 0");
    }

    private static void kindOf() {
        says("5", "KIND of a COLUMN");
        for (int kind = 0; kind < 11; kind++) {
            due("kind " + kind, one(kind).kindOf(0), kind);
        }
        asks("kind", x -> x.kindOf(ANYS), 9);
        ColumnCasts x = one(4);
        x.cast(0, 8);
        due("of a column that was cast", x.kindOf(0), 8);
        says("5", "COLUMN");
        refusesColumns("kindOf", (y, c) -> y.kindOf(c));
    }

    private static void ask() {
        says("6", "To ASK, as 0 .. 7: 1; as 8: 99 NOTHING, 100 and the KIND of a BOX, 110 a WORD");
        for (int kind = 0; kind < 8; kind++) {
            due("kind " + kind + " as " + kind, one(kind).ask(0, 0, kind), 1);
            due("kind " + kind + " as 8", one(kind).ask(0, 0, 8), 100 + kind);
            due("kind " + kind + " in any", cells(new long[] {10 + kind, 1}).ask(0, 0, 8), 100 + kind);
        }
        due("kind 8", table(1, "w(7)").ask(0, 0, 8), 104);
        due("nothing in kind 8", one(8).ask(0, 0, 8), 99);
        due("nothing in kind 9", one(9).ask(0, 0, 8), 99);
        due("nothing in kind 10", one(10).ask(0, 0, 8), 99);
        due("a word in kind 9", cells(new long[] {WORD, 1}).ask(0, 0, 8), 110);
        due("a word in kind 10", table(1, "n(zz)").ask(0, 0, 8), 110);
        ColumnCasts x = busy();
        due("ask", x.ask(LONGS, 0, 5), 1);
        ColumnCasts y = busy();
        y.ask(LONGS, 0, 8);
        due("what it leaves", State.of(x), State.of(y));
    }

    private static void askRefused() {
        says("6", "COLUMN; BAD: as; as told");
        refusesColumns("ask", (x, c) -> x.ask(c, 0, 4));
        refusesColumns("ask of no row as 9", (x, c) -> x.ask(c, 3, 9));
        for (int as : new int[] {-1, 9, 10, MIN, MAX}) {
            refuses("as " + as, x -> x.ask(LONGS, 0, as), BAD);
            refuses("as " + as + " at no row", x -> x.ask(LONGS, 3, as), BAD);
            refuses("kind 9 as " + as, x -> x.ask(ANYS, 3, as), BAD);
        }
        for (int r : NO_ROWS) {
            refuses("row " + r + " as 8", x -> x.ask(LONGS, r, 8), BEYOND);
            refuses("row " + r + " of kind 9 as 8", x -> x.ask(ANYS, r, 8), BEYOND);
            refuses("row " + r + " as 5", x -> x.ask(LONGS, r, 5), BEYOND);
            refuses("row " + r + " as 4", x -> x.ask(LONGS, r, 4), BEYOND);
            refuses("row " + r + " of kind 9 as 4", x -> x.ask(ANYS, r, 4), OTHER);
        }
        refuses("a long as 4", x -> x.ask(LONGS, 0, 4), OTHER);
        refuses("kind 8 as 4", x -> x.ask(BOXES, 1, 4), OTHER);
        refuses("no rows", () -> table(0, "i()"), x -> x.ask(0, 0, 4), BEYOND);
    }

    private static void got() {
        says("7", "GOT by the latest ask(), sum() that wasn't refused; 0: none yet");
        ColumnCasts x = table(2, "l(7,-8)", "o(_,'b)");
        due("none yet", x.got(), 0);
        x.write(0, 0, 5, MOST);
        due("behind a write", x.got(), 0);
        due("ask as 9", x.ask(0, 0, 9), BAD);
        due("none yet behind one refused", x.got(), 0);
        x.ask(0, 0, 5);
        due("by ask", x.got(), MOST);
        due("asked twice", x.got(), MOST);
        x.ask(0, 1, 6);
        due("by ask as 6", x.got(), bits(-8f));
        x.ask(1, 1, 8);
        due("of a word", x.got(), 2);
        due("refused", x.ask(1, 1, 4), OTHER);
        due("behind one refused", x.got(), 2);
        due("refused", x.ask(0, 2, 5), BEYOND);
        due("behind one refused", x.got(), 2);
        x.sum(0, 0, 1, 0);
        due("by sum", x.got(), -8);
        due("no such group", x.sum(0, 0, 2, 0), NONE);
        due("behind one refused", x.got(), -8);
        due("of the other group", x.sum(0, 1, 0, 0), 5);
        due("by sum once more", x.got(), MOST);
        x.ask(1, 0, 8);
        due("of nothing", x.got(), 0);
        x.ask(0, 0, 5);
        x.image();
        x.drop(0);
        x.undo();
        x.casts(0);
        due("behind others", x.got(), MOST);
        ColumnCasts y = table(2, "z(1,1)", "l()");
        y.write(1, 0, 5, MOST);
        y.write(1, 1, 5, 1);
        y.ask(0, 0, 0);
        due("a sum over", y.sum(0, 0, 0, 1), OVER);
        due("behind a sum over", y.got(), 1);
    }

    private static void write() {
        says("8", "To WRITE, as 0 .. 7, 10 .. 19: 1");
        for (int as = 0; as < 8; as++) {
            due("as " + as, one(as).write(0, 0, as, 1), 1);
            due("as " + (10 + as), one(as).write(0, 0, 10 + as, 1), 1);
            due("as " + (10 + as) + " into any", one(9).write(0, 0, 10 + as, 1), 1);
        }
        for (int kind = 8; kind < 11; kind++) {
            due("nothing into " + kind, one(kind).write(0, 0, NOUGHT, LEAST), 1);
        }
        due("nothing, whatever v is", one(10).write(0, 0, NOUGHT, MOST), 1);
        due("the first word", one(9).write(0, 0, WORD, 1), 1);
        due("the last word", one(10).write(0, 0, WORD, 702), 1);
        ColumnCasts x = table(3, "o(i1,i2,i3)", "i(1,2,3)");
        x.ask(1, 0, 4);
        due("write", x.write(0, 1, WORD, 5), 1);
        due("one cell alone", Checks.spelled(x, 0), "o(i1,'e,i3)");
        due("no other column", Checks.spelled(x, 1), "i(1,2,3)");
        due("got", x.got(), 1);
    }

    private static void writeRefused() {
        says("8", "COLUMN; BAD: as, v (by 19: 1 .. 702); as told");
        refusesColumns("write", (x, c) -> x.write(c, 0, 10, 1));
        refusesColumns("write at no row as 9", (x, c) -> x.write(c, 3, 9, 1));
        refusesColumns("write of word 703", (x, c) -> x.write(c, 0, WORD, 703));
        for (int as : new int[] {-1, 8, 9, 20, MIN, MAX}) {
            refuses("as " + as, x -> x.write(LONGS, 0, as, 1), BAD);
            refuses("as " + as + " at no row", x -> x.write(ANYS, 3, as, 1), BAD);
        }
        for (long v : new long[] {0, 703, -1, LEAST, MOST, (1L << 32) + 1}) {
            refuses("word of " + v, x -> x.write(ANYS, 0, WORD, v), BAD);
            refuses("word of " + v + " into longs", x -> x.write(LONGS, 0, WORD, v), BAD);
            refuses("word of " + v + " at no row", x -> x.write(ANYS, 3, WORD, v), BAD);
            refuses("word of " + v + " into boxes", x -> x.write(BOXES, 0, WORD, v), BAD);
        }
        for (int r : NO_ROWS) {
            refuses("row " + r + " as 5", x -> x.write(LONGS, r, 5, 1), BEYOND);
            refuses("row " + r + " as 7", x -> x.write(LONGS, r, 7, 1), BEYOND);
            refuses("row " + r + " as 17", x -> x.write(LONGS, r, 17, 1), BEYOND);
            refuses("row " + r + " of boxes as 15", x -> x.write(BOXES, r, 15, 1), BEYOND);
            refuses("row " + r + " of boxes as 19", x -> x.write(BOXES, r, WORD, 1), BEYOND);
            refuses("row " + r + " of any as 18", x -> x.write(ANYS, r, NOUGHT, 1), BEYOND);
            refuses("row " + r + " of any as 5", x -> x.write(ANYS, r, 5, 1), OTHER);
            refuses("row " + r + " of longs as 18", x -> x.write(LONGS, r, NOUGHT, 1), OTHER);
            refuses("row " + r + " of longs as 19", x -> x.write(LONGS, r, WORD, 1), OTHER);
        }
        refuses("a double into longs", x -> x.write(LONGS, 0, 7, 1), OTHER);
        refuses("a box of a double into longs", x -> x.write(LONGS, 0, 17, 1), OTHER);
        refuses("a box of a long into boxes", x -> x.write(BOXES, 0, 15, 1), OTHER);
        refuses("an int into boxes", x -> x.write(BOXES, 0, 4, 1), OTHER);
        refuses("a word into boxes", x -> x.write(BOXES, 1, WORD, 1), OTHER);
        refuses("nothing into longs", x -> x.write(LONGS, 0, NOUGHT, 1), OTHER);
        refuses("a word into longs", x -> x.write(LONGS, 0, WORD, 1), OTHER);
    }

    /** Column 0 brought to itself and to column 1. */
    private static void brought(int i, int j, int n, String itself, String other) {
        ColumnCasts x = table(5, "i(1,2,3,4,5)", "i(6,7,8,9,0)");
        due("bring to itself", x.bring(0, i, 0, j, n), n);
        due("cells of itself", Checks.spelled(x, 0), itself);
        ColumnCasts y = table(5, "i(1,2,3,4,5)", "i(6,7,8,9,0)");
        due("bring to another", y.bring(0, i, 1, j, n), n);
        due("cells of another", Checks.spelled(y, 1), other);
        due("cells they came from", Checks.spelled(y, 0), "i(1,2,3,4,5)");
    }

    private static void bring() {
        says("9", "n CELLS of a COLUMN from ROW i on come to those from j on of another one (or the same), as they all were before: n");
        brought(0, 1, 4, "i(1,1,2,3,4)", "i(6,1,2,3,4)");
        brought(1, 0, 4, "i(2,3,4,5,5)", "i(2,3,4,5,0)");
        brought(0, 0, 5, "i(1,2,3,4,5)", "i(1,2,3,4,5)");
        brought(2, 2, 1, "i(1,2,3,4,5)", "i(6,7,3,9,0)");
        brought(0, 4, 1, "i(1,2,3,4,1)", "i(6,7,8,9,1)");
        brought(4, 0, 1, "i(5,2,3,4,5)", "i(5,7,8,9,0)");
        brought(0, 2, 3, "i(1,2,1,2,3)", "i(6,7,1,2,3)");
        brought(2, 0, 3, "i(3,4,5,4,5)", "i(3,4,5,9,0)");
        brought(0, 0, 0, "i(1,2,3,4,5)", "i(6,7,8,9,0)");
        brought(5, 5, 0, "i(1,2,3,4,5)", "i(6,7,8,9,0)");
        brought(5, 0, 0, "i(1,2,3,4,5)", "i(6,7,8,9,0)");
        brought(0, 5, 0, "i(1,2,3,4,5)", "i(6,7,8,9,0)");
    }

    private static void bringOver() {
        says("9", "n CELLS of a COLUMN from ROW i on come to those from j on of another one (or the same), as they all were before: n");
        String[] texts = {"z(1,0)", "b(-128,0)", "c(65535,0)", "s(-32768,0)", "i(-999999,0)", "l(999999,0)", "f(-1,0)", "d(1,0)", "w(_,0)",
            "o('zz,_)", "n(ab,_)"};
        for (String text : texts) {
            ColumnCasts x = table(2, text, text.charAt(0) + "()");
            due("bring of " + text, x.bring(0, 0, 1, 0, 2), 2);
            due("brought of " + text, Checks.spelled(x, 1), text);
            due("bring within " + text, x.bring(0, 0, 0, 1, 1), 1);
            due("the same within " + text, x.differs(0, 1), 1);
        }
        String[] mixed = {"o(i1,b2,'c,_,d5)", "d(1,2,3,4,5)", "n(a,_,c,d,e)", "w(1,_,3,4,5)"};
        String[] down = {"o(i1,i1,b2,'c,_)", "d(1,1,2,3,4)", "n(a,a,_,c,d)", "w(1,1,_,3,4)"};
        String[] up = {"o(b2,'c,_,d5,d5)", "d(2,3,4,5,5)", "n(_,c,d,e,e)", "w(_,3,4,5,5)"};
        for (int k = 0; k < mixed.length; k++) {
            ColumnCasts x = table(5, mixed[k], mixed[k]);
            due("bring down within " + mixed[k], x.bring(0, 0, 0, 1, 4), 4);
            due("brought down", Checks.spelled(x, 0), down[k]);
            due("bring up within " + mixed[k], x.bring(1, 1, 1, 0, 4), 4);
            due("brought up", Checks.spelled(x, 1), up[k]);
        }
        ColumnCasts full = Checks.rows(40);
        full.column(4);
        full.column(4);
        for (int r = 0; r < 40; r++) {
            full.write(0, r, 4, r);
        }
        due("40 cells", full.bring(0, 0, 1, 0, 40), 40);
        due("39 cells, one further", full.bring(0, 0, 0, 1, 39), 39);
        for (int r = 0; r < 40; r++) {
            holds("row " + r, full, 1, r, 104, r);
            holds("row " + r + ", one further", full, 0, r, 104, r == 0 ? 0 : r - 1);
        }
        due("a cell more", full.bring(0, 0, 1, 0, 41), BEYOND);
        due("no cells of no rows", table(0, "i()").bring(0, 0, 0, 0, 0), 0);
        due("a cell of no rows", table(0, "i()").bring(0, 0, 0, 0, 1), BEYOND);
    }

    private static void bringRefused() {
        says("9", "COLUMNS, the first ahead; OTHER: of unlike KINDS; BEYOND: n, i or j is below 0, or beyond the end");
        refusesBoth("bring", (x, c, d) -> x.bring(c, 0, d, 0, 1));
        refusesBoth("bring of none", (x, c, d) -> x.bring(c, 0, d, 0, -1));
        refuses("longs to doubles", x -> x.bring(LONGS, 0, DOUBLES, 0, 1), OTHER);
        refuses("boxes to any", x -> x.bring(BOXES, 0, ANYS, 0, 1), OTHER);
        refuses("any to boxes", x -> x.bring(ANYS, 0, BOXES, 0, 1), OTHER);
        refuses("longs to doubles, no cells", x -> x.bring(LONGS, 0, DOUBLES, 0, 0), OTHER);
        refuses("longs to doubles beyond", x -> x.bring(LONGS, 0, DOUBLES, 0, 4), OTHER);
        refuses("longs to doubles below", x -> x.bring(LONGS, -1, DOUBLES, 0, 1), OTHER);
    }

    private static void bringBeyond() {
        says("9", "COLUMNS, the first ahead; OTHER: of unlike KINDS; BEYOND: n, i or j is below 0, or beyond the end");
        int[][] beyond = {{0, 0, -1}, {-1, 0, 1}, {0, -1, 1}, {0, 0, 4}, {1, 0, 3}, {0, 1, 3}, {3, 0, 1}, {0, 3, 1}, {4, 0, 0}, {0, 4, 0},
            {-1, 0, 0}, {0, -1, 0}, {0, 0, MIN}, {0, 0, MAX}, {MIN, 0, 1}, {MAX, 0, 1}, {0, MIN, 1}, {0, MAX, 1}, {1, 0, MAX}, {0, 1, MAX},
            {MAX, 0, MAX}, {0, MAX, MAX}, {MIN, 0, MIN}, {MAX, MAX, MAX}, {MAX, 0, 0}, {3, 3, MAX}, {2, 2, 2}, {4, 0, -1}, {0, 4, -1}};
        for (int[] each : beyond) {
            String what = each[0] + ", " + each[1] + ", " + each[2];
            refuses(what, x -> x.bring(LONGS, each[0], LIKE_LONGS, each[1], each[2]), BEYOND);
            refuses(what + " of itself", x -> x.bring(LONGS, each[0], LONGS, each[1], each[2]), BEYOND);
        }
    }

    private static void swap() {
        says("10", "Two ROWS change all their CELLS: how many COLUMNS there are (not GONE)");
        String[] texts = {"z(1,0,0)", "b(1,2,-3)", "c(1,2,3)", "s(1,2,3)", "i(1,2,3)", "l(1,2,3)", "f(1,2,3)", "d(1,2,3)", "w(1,2,_)",
            "o(i1,'b,_)", "n(a,b,_)"};
        String[] swapped = {"z(0,0,1)", "b(-3,2,1)", "c(3,2,1)", "s(3,2,1)", "i(3,2,1)", "l(3,2,1)", "f(3,2,1)", "d(3,2,1)", "w(_,2,1)",
            "o(_,'b,i1)", "n(_,b,a)"};
        ColumnCasts x = table(3, texts);
        x.keep(0, 4, 2, 4, 1);
        due("first and last", x.swap(0, 2), 11);
        for (int c = 0; c < 11; c++) {
            due("column " + c, Checks.spelled(x, c), swapped[c]);
        }
        due("a view stays as it is", Checks.viewed(x, 0), "[1, 2]");
        ColumnCasts y = table(3, texts);
        due("the other way about", y.swap(2, 0), 11);
        due("column 9", Checks.spelled(y, 9), swapped[9]);
        due("back", y.swap(0, 2), 11);
        due("column 9, back", Checks.spelled(y, 9), texts[9]);
        due("a row and itself", y.swap(1, 1), 11);
        due("column 9, still", Checks.spelled(y, 9), texts[9]);
        y.drop(3);
        y.drop(0);
        due("some gone", y.swap(0, 1), 9);
        due("no columns", Checks.rows(1).swap(0, 0), 0);
        due("rows 0 and 39", Checks.rows(40).swap(0, 39), 0);
    }

    private static void swapRefused() {
        says("10", "BEYOND: no such ROW");
        for (int r : NO_ROWS) {
            refuses("rows " + r + " and 0", x -> x.swap(r, 0), BEYOND);
            refuses("rows 0 and " + r, x -> x.swap(0, r), BEYOND);
            refuses("rows " + r + " and itself", x -> x.swap(r, r), BEYOND);
        }
        refuses("no rows", ColumnCasts::new, x -> x.swap(0, 0), BEYOND);
        refuses("40 rows", () -> Checks.rows(40), x -> x.swap(39, 40), BEYOND);
    }

    private static void differs() {
        says("11", "The first COLUMN (not GONE) by which CELLS of two ROWS aren't SAME; -5");
        ColumnCasts x = table(3, "i(1,1,2)", "o(i1,l1,i1)", "n(a,b,a)");
        due("by column 0", x.differs(0, 2), 0);
        due("by column 1", x.differs(0, 1), 1);
        due("the other way about", x.differs(1, 0), 1);
        due("a row and itself", x.differs(2, 2), NO_SUCH);
        x.drop(0);
        due("by column 2, 0 gone", x.differs(0, 2), NO_SUCH);
        due("by column 1, 0 gone", x.differs(0, 1), 1);
        x.drop(1);
        due("by column 2, 0 and 1 gone", x.differs(0, 1), 2);
        x.drop(2);
        due("all gone", x.differs(0, 1), NO_SUCH);
        due("no columns", Checks.rows(40).differs(0, 39), NO_SUCH);
        ColumnCasts last = Checks.rows(2);
        for (int c = 0; c < 12; c++) {
            last.column(4);
        }
        due("by none of 12", last.differs(0, 1), NO_SUCH);
        last.write(11, 1, 4, 1);
        due("by column 11", last.differs(0, 1), 11);
        ColumnCasts undone = table(2, "i(5,5)");
        undone.image();
        Checks.read(undone, "i(1,2)");
        undone.undo();
        due("by one that is not there any more", undone.differs(0, 1), NO_SUCH);
        asks("differs", y -> y.differs(0, 2), ANYS);
    }

    private static void differsRefused() {
        says("11", "BEYOND");
        for (int r : NO_ROWS) {
            refuses("rows " + r + " and 0", x -> x.differs(r, 0), BEYOND);
            refuses("rows 0 and " + r, x -> x.differs(0, r), BEYOND);
            refuses("rows " + r + " and itself", x -> x.differs(r, r), BEYOND);
        }
        refuses("no rows", ColumnCasts::new, x -> x.differs(0, 0), BEYOND);
    }

    private static void ofDue(int rows, String text, int empty, int unlike, int notAhead) {
        ColumnCasts x = table(rows, text);
        due("nothing in " + text + " of " + rows, x.of(0, 0), empty);
        due("nothing in " + text + " of " + rows + " once more", x.of(0, 0), empty);
        due("unlike ones in " + text + " of " + rows, x.of(0, 1), unlike);
        due("not ahead in " + text + " of " + rows, x.of(0, 2), notAhead);
    }

    private static void of() {
        says("12", "Of a COLUMN what 0 how many CELLS hold NOTHING, 1 how many unlike ones there are (not SAME), 2 at how many ROWS");
        ofDue(0, "i()", 0, 0, 0);
        ofDue(0, "o()", 0, 0, 0);
        ofDue(1, "i()", 0, 1, 0);
        ofDue(1, "o()", 1, 1, 0);
        ofDue(2, "i()", 0, 1, 1);
        ofDue(40, "i()", 0, 1, 39);
        ofDue(40, "w()", 40, 1, 39);
        ofDue(40, "n(a)", 39, 2, 39);
        ofDue(3, "i(3,2,1)", 0, 3, 0);
        ofDue(3, "i(1,2,3)", 0, 3, 2);
        ofDue(4, "i(1,2,1,2)", 0, 2, 2);
        ofDue(4, "w(1,_,1,_)", 2, 2, 2);
        ofDue(5, "o(i1,l1,f4,d4,z1)", 0, 5, 3);
        ofDue(4, "o('a,i1,'a,_)", 1, 3, 2);
        ofDue(4, "z(1,0,1,0)", 0, 2, 1);
        asks("nothing", x -> x.of(ANYS, 0), 1);
        asks("unlike ones", x -> x.of(LIKE_LONGS, 1), 2);
        asks("not ahead", x -> x.of(LIKE_LONGS, 2), 1);
    }

    private static void ofRefused() {
        says("12", "COLUMN; BAD: what");
        for (int what : new int[] {-1, 3, MIN, MAX}) {
            refuses("what " + what, x -> x.of(LONGS, what), BAD);
            refusesColumns("what " + what, (x, c) -> x.of(c, what));
        }
    }
}
