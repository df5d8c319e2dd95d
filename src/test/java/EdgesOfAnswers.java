/** What the document says of all answers, and its details. */
final class EdgesOfAnswers extends Edges {
    static void all() {
        constants();
        theFirstNamed();
        refusedChangesNothing();
        askedChangesNothing();
        askedChangesGot();
        numbersAnew();
        likeDoubles();
        rowsBehindKept();
        keysOfGone();
        toldCells();
        orderOfNone();
        nothingIsOneGroup();
        overOnTheWay();
        withoutRows();
        textsWithoutRows();
        notAheadOfLike();
        behindUndo();
    }

    private static void constants() {
        says("Answers", "NONE (-1) no such number; BAD (-2) a number is not as told; STATE (-3) as told; FULL (-4); the first that a call's words name");
        due("NONE", NONE, -1);
        due("BAD", BAD, -2);
        due("STATE", STATE, -3);
        due("FULL", FULL, -4);
        due("OVER", OVER, -15);
        due("BEYOND", BEYOND, -21);
        due("OTHER", OTHER, -22);
        due("NOTHING", NOTHING, -23);
    }

    private static void theFirstNamed() {
        says("Answers", "NONE (-1) no such number; BAD (-2) a number is not as told; STATE (-3) as told; FULL (-4); the first that a call's words name", 3, 6, 8, 9, 12, 15, 16, 17, 18, 22, 23, 24, 25, 27, 28);
        refuses("column: BAD, FULL", Edges::full, x -> x.column(11), BAD);
        refuses("ask: COLUMN, BAD", x -> x.ask(GONE, 3, 9), OTHER);
        refuses("ask: BAD, BEYOND", x -> x.ask(LONGS, 3, 9), BAD);
        refuses("ask: OTHER, BEYOND", x -> x.ask(ANYS, 3, 0), OTHER);
        refuses("ask: BEYOND, OTHER", x -> x.ask(LONGS, 3, 0), BEYOND);
        refuses("write: COLUMN, BAD", x -> x.write(TO_COME, 3, WORD, 0), NOTHING);
        refuses("write: BAD, OTHER", x -> x.write(LONGS, 3, WORD, 0), BAD);
        refuses("write: OTHER, BEYOND", x -> x.write(LONGS, 3, WORD, 1), OTHER);
        refuses("write: BEYOND, OTHER", x -> x.write(BOXES, 3, WORD, 1), BEYOND);
        refuses("bring: COLUMN, COLUMN", x -> x.bring(GONE, 0, 12, 0, 0), OTHER);
        refuses("bring: COLUMN, OTHER", x -> x.bring(LONGS, -1, TO_COME, 0, 0), NOTHING);
        refuses("bring: OTHER, BEYOND", x -> x.bring(LONGS, -1, ANYS, 0, 0), OTHER);
        refuses("of: COLUMN, BAD", x -> x.of(TO_COME, 3), NOTHING);
        refuses("keep: NONE, COLUMN", x -> x.keep(2, GONE, 6, 8, 0), NONE);
        refuses("keep: COLUMN, BAD", x -> x.keep(0, GONE, 6, 8, 0), OTHER);
        refuses("key: COLUMN, FULL", Edges::full, x -> x.key(GONE, false), OTHER);
        refuses("sort: NONE, STATE", () -> Checks.rows(1), x -> x.sort(2), NONE);
        refuses("filter: COLUMN, BAD, FULL", Edges::full, x -> x.filter(GONE, 6, 8, 0), OTHER);
        refuses("filter: BAD, FULL", Edges::full, x -> x.filter(LONGS, 6, 8, 0), BAD);
        refuses("pair: COLUMN, NONE", x -> x.pair(LONGS, GONE, -2), OTHER);
        refuses("group: NONE, COLUMN", x -> x.group(2, GONE, 9, 2), NONE);
        refuses("group: COLUMN, NONE, BAD", x -> x.group(0, GONE, 9, 2), OTHER);
        refuses("group: NONE, BAD", x -> x.group(0, LONGS, 9, 2), NONE);
        refuses("sum: NONE, COLUMN", x -> x.sum(2, GONE, 9, TO_COME), NONE);
        refuses("sum: COLUMN, COLUMN, NONE", x -> x.sum(0, GONE, 9, TO_COME), OTHER);
        refuses("sum: COLUMN, NONE", x -> x.sum(0, LONGS, 9, TO_COME), NOTHING);
        refuses("loses: COLUMN, BAD", x -> x.loses(GONE, 11), OTHER);
        refuses("cast: COLUMN, BAD", x -> x.cast(TO_COME, 11), NOTHING);
        refuses("feed: BAD, FULL", Edges::full, x -> x.feed(128), BAD);
    }

    private static void refusedChangesNothing() {
        says("Answers", "What is answered so, refused or OVER, changes nothing (GOT neither) but count(4) to (6)", 2, 3, 6, 14, 17, 24, 27);
        refuses("NONE", x -> x.viewed(0, 3), NONE);
        refuses("BAD", x -> x.size(41), BAD);
        refuses("STATE", () -> table(3, "i(3,2,1)"), x -> x.sort(0), STATE);
        refuses("FULL", Edges::full, x -> x.column(4), FULL);
        refuses("OVER", EdgesOfAnswers::almostOver, x -> x.sum(0, ANYS, 0, LONGS), OVER);
        refuses("BEYOND by ask", x -> x.ask(LONGS, 3, 5), BEYOND);
        refuses("OTHER by ask", x -> x.ask(LONGS, 0, 4), OTHER);
        refuses("NOTHING by ask", x -> x.ask(TO_COME, 0, 5), NOTHING);
        refuses("NONE by sum", x -> x.sum(0, LONGS, 3, LONGS), NONE);
        refuses("what is lost by a cast", x -> x.cast(ANYS, 4), -1001);
    }

    private static ColumnCasts almostOver() {
        ColumnCasts x = busy();
        x.write(ANYS, 0, NOUGHT, 0);
        x.write(ANYS, 1, NOUGHT, 0);
        x.write(LONGS, 1, 5, MOST);
        return x;
    }

    private static void askedChangesNothing() {
        says("Answers", "what is asked changes GOT alone, where so told", 5, 7, 11, 12, 14, 19, 20, 22, 23, 25, 26, 30, 33);
        asks("kindOf", x -> x.kindOf(BOXES), 8);
        asks("got", ColumnCasts::got, bits(2.0));
        asks("differs", x -> x.differs(1, 2), ANYS);
        asks("of 0", x -> x.of(ANYS, 0), 1);
        asks("of 1", x -> x.of(ANYS, 1), 3);
        asks("of 2", x -> x.of(LONGS, 2), 1);
        asks("viewed", x -> x.viewed(0, 0), 1);
        asks("order", x -> x.order(0, 1), 1);
        asks("looked", x -> x.looked(0), 5);
        asks("pair", x -> x.pair(LONGS, LONGS, 0), 202);
        asks("group", x -> x.group(0, LONGS, 1, 0), 2);
        asks("loses", x -> x.loses(DOUBLES, 5), 0);
        asks("casts", x -> x.casts(BOXES), 0b01100000000);
        asks("spelled", x -> x.spelled(LONGS, 2), '3');
        asks("count", x -> x.count(7), 5);
    }

    private static void askedChangesGot() {
        says("Answers", "what is asked changes GOT alone, where so told", 6, 24);
        ColumnCasts asked = busy();
        asked.ask(LONGS, 0, 5);
        due("got by ask", asked.got(), 3);
        ColumnCasts summed = busy();
        summed.sum(0, LONGS, 2, LONGS);
        due("got by sum", summed.got(), 3);
        due("what they leave", State.of(asked), State.of(summed));
    }

    private static void numbersAnew() {
        says("Details", "COLUMNS that come have numbers anew, also behind a drop(); those that were dropped count among the 12", 3, 4, 29);
        ColumnCasts x = Checks.rows(1);
        for (int c = 0; c < 12; c++) {
            due("column, those ahead gone", c % 2 == 0 ? x.column(4) : Checks.read(x, "i(5)"), c);
            due("drop", x.drop(c), 4);
            due("came", x.count(1), c + 1);
        }
        due("a column more, all gone", x.column(4), FULL);
        due("a column read, all gone", Checks.read(x, "i(5)"), FULL);
        due("none came", x.count(1), 12);
        for (int c = 0; c < 12; c++) {
            due("column " + c, x.kindOf(c), OTHER);
        }
    }

    private static void likeDoubles() {
        says("Details", "Of like DOUBLES of one KIND the lesser NUMBER is ahead", 12, 17);
        long like = 1L << 53;
        ColumnCasts x = cells(new long[] {15, like + 1}, new long[] {15, like}, new long[] {15, MOST}, new long[] {15, MOST - 1},
            new long[] {15, LEAST + 1}, new long[] {15, LEAST});
        due("not ahead", x.of(0, 2), 1);
        x.key(0, false);
        due("elsewhere", x.sort(0), 6);
        due("sorted", Checks.viewed(x, 0), "[5, 4, 1, 0, 3, 2]");
        x.key(-1, false);
        x.key(0, true);
        x.sort(1);
        due("turned", Checks.viewed(x, 1), "[2, 3, 0, 1, 4, 5]");
        ColumnCasts y = Checks.rows(2);
        y.column(5);
        y.write(0, 0, 5, MOST - 1);
        y.write(0, 1, 5, MOST);
        due("of longs alone", y.of(0, 2), 1);
        y.swap(0, 1);
        due("of longs alone, swapped", y.of(0, 2), 0);
    }

    private static void rowsBehindKept() {
        says("Details", "ROWS that come stand in a VIEW that was kept small, too", 2, 15, 21);
        ColumnCasts x = table(3, "i(1,2,3)");
        x.keep(0, 0, 1, 4, 2);
        x.filter(0, 1, 4, 9);
        x.run(1);
        due("size", x.size(5), 3);
        due("the view that was kept", Checks.viewed(x, 0), "[1, 3, 4]");
        due("the view that was run empty", Checks.viewed(x, 1), "[3, 4]");
        due("size", x.size(2), 5);
        due("kept, smaller", Checks.viewed(x, 0), "[1]");
        due("empty, smaller", Checks.viewed(x, 1), "[]");
        due("size", x.size(3), 2);
        due("a row that came again", Checks.viewed(x, 0), "[1, 2]");
        due("a row that came again", Checks.viewed(x, 1), "[2]");
    }

    private static void keysOfGone() {
        says("Details", "KEYS of COLUMNS that are GONE stay and count", 16, 17);
        ColumnCasts x = table(3, "i(3,2,1)", "i(1,3,2)");
        for (int k = 0; k < 4; k++) {
            x.key(0, false);
        }
        x.drop(0);
        due("keys", x.count(2), 4);
        due("a fifth", x.key(1, false), FULL);
        due("sort by those alone", x.sort(0), 0);
        x.key(-1, false);
        due("a first", x.key(1, false), 1);
        x.drop(1);
        due("sort by none that is there", x.sort(1), 0);
        due("view 1", Checks.viewed(x, 1), "[0, 1, 2]");
        due("one key", x.count(2), 1);
    }

    private static void toldCells() {
        says("Details", "A told CELL has to be right also where it does not matter", 15, 18);
        for (int test = 0; test < 6; test++) {
            int told = test;
            for (int kind : new int[] {-1, 8, 9, 11, MIN, MAX}) {
                refuses("keep by test " + test + ", kind " + kind, x -> x.keep(0, ANYS, told, kind, 1), BAD);
                refuses("filter by test " + test + ", kind " + kind, x -> x.filter(ANYS, told, kind, 1), BAD);
            }
            for (long v : new long[] {0, 703, -1, LEAST, MOST}) {
                refuses("keep by test " + test + ", word " + v, x -> x.keep(0, LONGS, told, 10, v), BAD);
                refuses("filter by test " + test + ", word " + v, x -> x.filter(LONGS, told, 10, v), BAD);
            }
        }
        refuses("keep of no rows", () -> table(0, "i()"), x -> x.keep(0, 0, 3, 8, 1), BAD);
        refuses("filter of no rows", () -> table(0, "i()"), x -> x.filter(0, 3, 8, 1), BAD);
    }

    private static void orderOfNone() {
        says("Details", "order() of no FILTERS is 0", 19);
        ColumnCasts x = Checks.rows(40);
        for (int view = 0; view < 2; view++) {
            due("cells, view " + view, x.order(view, -1), 0);
            due("the first, view " + view, x.order(view, 0), NONE);
        }
        x.column(4);
        x.filter(0, 4, 4, 0);
        due("one filter", x.order(0, -1), 40);
        x.filter(-1, 0, 0, 0);
        due("none any more", x.order(0, -1), 0);
        due("of no rows", new ColumnCasts().order(1, -1), 0);
    }

    private static void nothingIsOneGroup() {
        says("Details", "NOTHING is one GROUP", 23, 24);
        for (String letter : new String[] {"w", "o", "n"}) {
            due("all of kind " + letter, Checks.grouped(table(40, letter + "()"), 0, 0), "1 0x40");
        }
        due("among boxes", Checks.grouped(table(5, "w(1,_,2,_,1)"), 0, 0), "3 0x2 1x2 2x1");
        due("among words", Checks.grouped(table(5, "n(_,a,_,b,_)"), 1, 0), "3 0x3 1x1 3x1");
        ColumnCasts x = table(4, "o(_,i5,_,i7)", "i(1,2,3,4)");
        due("sum of it", x.sum(0, 0, 0, 1), 5);
        due("got", x.got(), 4);
    }

    private static ColumnCasts threeLongs(long first, long second, long third) {
        ColumnCasts x = table(3, "z()", "l()");
        x.write(1, 0, 5, first);
        x.write(1, 1, 5, second);
        x.write(1, 2, 5, third);
        return x;
    }

    private static void overOnTheWay() {
        says("Details", "A SUM is OVER if it is so on the way", 24);
        due("above, then back", threeLongs(MOST, 1, -1).sum(0, 0, 0, 1), OVER);
        due("below, then back", threeLongs(LEAST, -1, 1).sum(0, 0, 0, 1), OVER);
        due("at the end alone", threeLongs(MOST - 1, 1, 1).sum(0, 0, 0, 1), OVER);
        due("below at the end alone", threeLongs(LEAST + 1, -1, -1).sum(0, 0, 0, 1), OVER);
        due("never", threeLongs(MOST, -1, 1).sum(0, 0, 0, 1), 5);
        due("never below", threeLongs(LEAST, 1, -1).sum(0, 0, 0, 1), 5);
        due("over twice, as if it were right", threeLongs(MOST, MOST, 2).sum(0, 0, 0, 1), OVER);
        due("over by each bit", threeLongs(0x5555555555555555L, 0x5555555555555555L, 0).sum(0, 0, 0, 1), OVER);
        ColumnCasts x = threeLongs(MOST, 1, -1);
        x.key(1, false);
        x.sort(0);
        due("in the order of the view", x.sum(0, 0, 0, 1), 5);
        due("got", x.got(), MOST);
        due("in that of the other one", x.sum(1, 0, 0, 1), OVER);
        due("got still", x.got(), MOST);
        x.keep(1, 1, 0, 5, MOST);
        due("of those that are left", x.sum(1, 0, 0, 1), 5);
        due("got then", x.got(), 0);
    }

    private static void withoutRows() {
        says("Details", "Without ROWS each CAST can be; in a TEXT the first ITEM is the FAULT then", 25, 26, 27);
        for (int from = 0; from < 11; from++) {
            ColumnCasts x = new ColumnCasts();
            x.column(from);
            due("casts of " + from, x.casts(0), 0b11111111111);
            int had = from;
            for (int to = 0; to < 11; to++) {
                due("loses of " + from + " by " + to, x.loses(0, to), NO_SUCH);
                due("cast to " + to, x.cast(0, to), had);
                due("kind then", x.kindOf(0), to);
                had = to;
            }
        }
        ColumnCasts y = table(3, "n(a,b,c)");
        due("with rows", y.cast(0, 0), -1000);
        y.size(0);
        due("without those", y.cast(0, 0), 10);
    }

    private static void textsWithoutRows() {
        says("Details", "Without ROWS each CAST can be; in a TEXT the first ITEM is the FAULT then", 29);
        String[] items = {"1", "1", "1", "1", "1", "1", "1", "1", "1", "i1", "a"};
        for (int kind = 0; kind < 11; kind++) {
            char letter = "zbcsilfdwon".charAt(kind);
            ColumnCasts x = new ColumnCasts();
            due("an item of kind " + kind, Checks.read(x, letter + "(" + items[kind] + ")"), -12);
            due("nothing of kind " + kind, Checks.read(x, letter + "(_)"), -12);
            due("a , of kind " + kind, Checks.read(x, letter + "(,)"), -12);
            due("an early end of kind " + kind, Checks.read(x, letter + "("), -12);
            due("none of kind " + kind, Checks.read(x, letter + "()"), 0);
        }
    }

    private static void notAheadOfLike() {
        says("Details", "of(c, 2) counts like ones, too", 12);
        due("40 like ones", table(40, "i()").of(0, 2), 39);
        due("two of nothing", table(2, "w()").of(0, 2), 1);
        due("two of one word", table(2, "n(ab,ab)").of(0, 2), 1);
        due("two falses", table(2, "z()").of(0, 2), 1);
        due("like ones and lesser ones", table(4, "i(2,2,1,1)").of(0, 2), 2);
        due("like doubles of unlike kinds, the lesser kind ahead", table(2, "o(d4,i1)").of(0, 2), 0);
        due("like doubles of unlike kinds, the other way about", table(2, "o(i1,d4)").of(0, 2), 1);
    }

    private static void behindUndo() {
        says("Details", "What was refused counts on, and GOT stays, behind undo()", 32, 7, 33);
        ColumnCasts x = busy();
        x.image();
        x.ask(LONGS, 0, 5);
        x.swap(0, 3);
        x.kindOf(GONE);
        x.kindOf(TO_COME);
        x.undo();
        due("refused", Checks.refused(x), "1 1 1");
        due("got", x.got(), 3);
        x.swap(0, 3);
        x.kindOf(GONE);
        x.kindOf(TO_COME);
        x.undo();
        due("refused once more", Checks.refused(x), "2 2 2");
        due("got still", x.got(), 3);
        due("bytes of the text", x.count(7), 5);
        ColumnCasts y = new ColumnCasts();
        y.kindOf(0);
        due("refused", y.undo(), STATE);
        due("counted", Checks.refused(y), "0 0 1");
    }
}
