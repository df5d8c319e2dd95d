/** Promises 22 to 27: pairs, groups, casts. */
final class EdgesOfGroupCalls extends Edges {
    private static final int[] NO_VIEWS = {-1, 2, -2, MIN, MAX};
    private static final int[] NO_KINDS = {-1, 11, MIN, MAX};
    private static final String LETTERS = "zbcsilfdwon";

    static void all() {
        pair();
        pairRefused();
        group();
        groupRefused();
        sum();
        sumOfGroups();
        sumRefused();
        loses();
        losesRefused();
        casts();
        castsRefused();
        cast();
        castLost();
        castOfNothingAndWords();
        castRefused();
    }

    private static void pair() {
        says("22", "The i-th of PAIRS: 100 times the ROW of VIEW 0, and that of VIEW 1; i -1: how many");
        ColumnCasts x = table(4, "i(1,2,1,3)", "d(4,12,4,20)", "z(1,1,1,1)");
        due("all pairs", Checks.paired(x, 0, 1), "5 [0, 2, 200, 202, 301]");
        due("the other way about", Checks.paired(x, 1, 0), "5 [0, 2, 103, 200, 202]");
        due("a column and itself", Checks.paired(x, 0, 0), "6 [0, 2, 101, 200, 202, 303]");
        due("none", Checks.paired(x, 0, 2), "0 []");
        x.keep(0, 0, 2, 4, 1);
        due("of view 0, kept small", Checks.paired(x, 0, 1), "1 [301]");
        x.view(0);
        x.keep(1, 1, 1, 4, 1);
        due("of view 1, kept small", Checks.paired(x, 0, 1), "4 [0, 2, 200, 202]");
        asks("how many", y -> y.pair(LONGS, LONGS, -1), 2);
        asks("the first", y -> y.pair(LONGS, LONGS, 0), 202);
        asks("the last", y -> y.pair(LONGS, LONGS, 1), 0);
        asks("how many, none", y -> y.pair(LONGS, ANYS, -1), 0);
        due("no rows", table(0, "i()").pair(0, 0, -1), 0);
        due("row 39 and row 39", table(40, "i()").pair(0, 0, 1599), 3939);
    }

    private static void pairRefused() {
        says("22", "COLUMNS, the first ahead; NONE: i");
        refusesBoth("pair", (x, c, d) -> x.pair(c, d, -1));
        refusesBoth("pair -2", (x, c, d) -> x.pair(c, d, -2));
        for (int i : new int[] {-2, 2, 1600, MIN, MAX}) {
            refuses("pair " + i + " of two", x -> x.pair(LONGS, LONGS, i), NONE);
        }
        refuses("pair 0 of none", x -> x.pair(LONGS, ANYS, 0), NONE);
        refuses("pair 0 of no rows", () -> table(0, "i()"), x -> x.pair(0, 0, 0), NONE);
        due("pair 1600 of all", table(40, "i()").pair(0, 0, 1600), NONE);
    }

    private static void group() {
        says("23", "Of the i-th GROUP of a COLUMN in a VIEW what 0 its first ROW, 1 how many ROWS; i -1: how many GROUPS");
        ColumnCasts x = table(5, "i(2,1,2,3,1)");
        due("groups", Checks.grouped(x, 0, 0), "3 0x2 1x2 3x1");
        x.key(0, true);
        x.sort(1);
        due("groups of the sorted view", Checks.grouped(x, 1, 0), "3 3x1 0x2 1x2");
        due("groups of the other view", Checks.grouped(x, 0, 0), "3 0x2 1x2 3x1");
        x.keep(1, 0, 0, 4, 3);
        x.keep(1, 0, 4, 4, 3);
        due("groups of the view kept small", Checks.grouped(x, 1, 0), "2 0x2 1x2");
        x.keep(1, 0, 3, 4, 3);
        due("groups of the empty view", Checks.grouped(x, 1, 0), "0");
        due("groups of no rows", Checks.grouped(table(0, "i()"), 0, 0), "0");
        due("groups of 40 like rows", Checks.grouped(table(40, "w()"), 0, 0), "1 0x40");
        asks("how many", y -> y.group(0, LIKE_LONGS, -1, 0), 2);
        asks("the first row of the first", y -> y.group(0, LIKE_LONGS, 0, 0), 1);
        asks("the rows of the first", y -> y.group(0, LIKE_LONGS, 0, 1), 1);
        asks("the first row of the last", y -> y.group(0, LIKE_LONGS, 1, 0), 2);
        asks("the rows of the last", y -> y.group(0, LIKE_LONGS, 1, 1), 2);
        asks("how many in view 1", y -> y.group(1, LIKE_LONGS, -1, 1), 1);
        for (int what : new int[] {-1, 0, 1, 2, MIN, MAX}) {
            asks("how many, what " + what, y -> y.group(0, LONGS, -1, what), 3);
        }
    }

    private static void groupRefused() {
        says("23", "NONE: view; COLUMN; NONE: i; BAD: what (i -1: it does not matter)");
        for (int view : NO_VIEWS) {
            refuses("view " + view, x -> x.group(view, LONGS, -1, 0), NONE);
            refuses("view " + view + " of one gone", x -> x.group(view, GONE, 0, 0), NONE);
            refuses("view " + view + " of one to come", x -> x.group(view, TO_COME, 0, 2), NONE);
            refuses("view " + view + ", what 2", x -> x.group(view, LONGS, 0, 2), NONE);
        }
        refusesColumns("group", (x, c) -> x.group(0, c, 0, 0));
        refusesColumns("group, how many", (x, c) -> x.group(1, c, -1, 0));
        refusesColumns("group 3, what 2", (x, c) -> x.group(0, c, 3, 2));
        for (int i : new int[] {-2, 3, 40, MIN, MAX}) {
            refuses("group " + i + " of three", x -> x.group(0, LONGS, i, 0), NONE);
            refuses("group " + i + " of three, what 1", x -> x.group(0, LONGS, i, 1), NONE);
            refuses("group " + i + " of three, what 2", x -> x.group(0, LONGS, i, 2), NONE);
        }
        refuses("group 2 of two, view 1", x -> x.group(1, LONGS, 2, 0), NONE);
        refuses("group 0 of no rows", () -> table(0, "i()"), x -> x.group(0, 0, 0, 0), NONE);
        for (int what : new int[] {-1, 2, MIN, MAX}) {
            refuses("what " + what, x -> x.group(0, LONGS, 0, what), BAD);
            refuses("what " + what + " of the last", x -> x.group(0, LONGS, 2, what), BAD);
        }
    }

    private static void summed(String what, ColumnCasts x, Call sum, int answer, long got) {
        due(what, sum.on(x), answer);
        due(what + ", got", x.got(), got);
    }

    private static void sum() {
        says("24", "SUM of COLUMN d of the i-th GROUP of COLUMN c in a VIEW: 5, 7 (KIND of what it is); GOT is its NUMBER");
        ColumnCasts x = table(3, "i()", "z(1,1,1)", "b(1,2,-4)", "c(1,2,3)", "s(1,2,3)", "i(1,2,3)", "l(1,2,3)", "f(1,2,4)", "d(1,2,-4)",
            "w(1,_,3)", "o(z1,'b,i7)", "n(a,b,c)");
        long[] got = {0, 0, -1, 6, 6, 6, 6, bits(1.75), bits(-0.25), 4, 7, 0};
        for (int d = 0; d < 12; d++) {
            int column = d;
            summed("of kind " + x.kindOf(d), x, y -> y.sum(0, 0, 0, column), d == 7 || d == 8 ? 7 : 5, got[d]);
        }
        ColumnCasts changed = busy();
        due("sum", changed.sum(0, LIKE_LONGS, 1, LONGS), 5);
        due("got", changed.got(), 5);
        ColumnCasts asked = busy();
        asked.write(LONGS, 1, 5, 5);
        asked.ask(LONGS, 1, 5);
        asked.write(LONGS, 1, 5, 1);
        due("what it leaves", State.of(changed), State.of(asked));
    }

    private static void sumOfGroups() {
        says("24", "SUM of COLUMN d of the i-th GROUP of COLUMN c in a VIEW: 5, 7 (KIND of what it is); GOT is its NUMBER");
        ColumnCasts x = table(4, "n(a,b,a)", "o(i1,d1,i2,l7)");
        summed("of the first", x, y -> y.sum(0, 0, 0, 1), 5, 3);
        summed("of the second", x, y -> y.sum(0, 0, 1, 1), 7, bits(0.25));
        summed("of nothing", x, y -> y.sum(0, 0, 2, 1), 5, 7);
        x.keep(1, 1, 2, 4, 1);
        summed("of the first in view 1", x, y -> y.sum(1, 0, 0, 1), 5, 2);
        summed("of the second in view 1", x, y -> y.sum(1, 0, 1, 1), 5, 7);
        summed("of the first in view 0, still", x, y -> y.sum(0, 0, 0, 1), 5, 3);
        ColumnCasts all = table(40, "i()", "z()");
        for (int r = 0; r < 40; r++) {
            all.write(0, r, 4, MAX);
        }
        summed("of 40", all, y -> y.sum(0, 1, 0, 0), 5, 40L * MAX);
        ColumnCasts reals = table(40, "d()", "z()");
        for (int r = 0; r < 40; r++) {
            reals.write(0, r, 5, LEAST);
        }
        summed("of 40 below all longs", reals, y -> y.sum(0, 1, 0, 0), 7, bits(40 * -9223372036854775808.0));
        ColumnCasts mixed = cells(new long[] {15, MOST}, new long[] {15, 1}, new long[] {16, 0});
        mixed.column(4);
        summed("a float makes doubles of longs that would be over", mixed, y -> y.sum(0, 1, 0, 0), 7, bits(9223372036854775808.0));
    }

    private static void sumRefused() {
        says("24", "NONE: view; COLUMNS, c ahead; NONE: i; OVER");
        for (int view : NO_VIEWS) {
            refuses("view " + view, x -> x.sum(view, LONGS, 0, LONGS), NONE);
            refuses("view " + view + " of one gone", x -> x.sum(view, GONE, 0, LONGS), NONE);
            refuses("view " + view + " of one to come", x -> x.sum(view, LONGS, 0, TO_COME), NONE);
        }
        refusesBoth("sum", (x, c, d) -> x.sum(0, c, 0, d));
        refusesBoth("sum of group 3", (x, c, d) -> x.sum(0, c, 3, d));
        refusesBoth("sum of group -1", (x, c, d) -> x.sum(1, c, -1, d));
        for (int i : new int[] {-1, -2, 3, 40, MIN, MAX}) {
            refuses("group " + i + " of three", x -> x.sum(0, LONGS, i, DOUBLES), NONE);
        }
        refuses("group 0 of no rows", () -> table(0, "i()"), x -> x.sum(0, 0, 0, 0), NONE);
        for (long[] over : new long[][] {{MOST, 1}, {LEAST, -1}, {MOST, MOST}, {LEAST, LEAST}, {1, MOST}, {-1, LEAST}}) {
            refuses("sum of " + over[0] + " and " + over[1], () -> busyOver(over), x -> x.sum(0, ANYS, 0, LONGS), OVER);
        }
    }

    /** Two longs in one group. */
    private static ColumnCasts busyOver(long[] written) {
        ColumnCasts x = busy();
        x.view(0);
        for (int r = 0; r < 3; r++) {
            x.write(ANYS, r, NOUGHT, 0);
            x.write(LONGS, r, 5, r < 2 ? written[r] : 0);
        }
        return x;
    }

    private static void loses() {
        says("25", "The first ROW whose CELL doesn't COME BACK from a KIND (0 .. 10); -5");
        ColumnCasts x = table(4, "i(0,1,127,128)", "o(i1,'a,_,d1)", "d(4,0,1,8)", "w(1,_,300,_)", "n(_,a,b,_)");
        int[][] due = {
            {2, 3, NO_SUCH, NO_SUCH, NO_SUCH, NO_SUCH, NO_SUCH, NO_SUCH, NO_SUCH, NO_SUCH, 0},
            {1, 1, 1, 1, 1, 1, 1, 1, 1, NO_SUCH, 0},
            {2, 2, 2, 2, 2, 2, NO_SUCH, NO_SUCH, 2, NO_SUCH, 0},
            {1, 1, 1, 1, 1, 1, 1, 1, NO_SUCH, NO_SUCH, 0},
            {0, 0, 0, 0, 0, 0, 0, 0, 1, NO_SUCH, NO_SUCH}};
        for (int c = 0; c < due.length; c++) {
            for (int kind = 0; kind < 11; kind++) {
                due("column " + c + " from " + kind, x.loses(c, kind), due[c][kind]);
            }
        }
        asks("some", y -> y.loses(DOUBLES, 4), 0);
        asks("none", y -> y.loses(DOUBLES, 6), NO_SUCH);
        ColumnCasts last = table(40, "i()");
        due("none of 40", last.loses(0, 1), NO_SUCH);
        last.write(0, 39, 4, 128);
        due("the last of 40", last.loses(0, 1), 39);
        last.size(39);
        due("none of 39", last.loses(0, 1), NO_SUCH);
        last.keep(0, 0, 3, 4, 0);
        due("of 39, whatever the views", last.loses(0, 10), 0);
    }

    private static void losesRefused() {
        says("25", "COLUMN; BAD");
        for (int kind : NO_KINDS) {
            refuses("kind " + kind, x -> x.loses(LONGS, kind), BAD);
            refuses("kind " + kind + " of no rows", () -> table(0, "i()"), x -> x.loses(0, kind), BAD);
            refusesColumns("kind " + kind, (x, c) -> x.loses(c, kind));
        }
    }

    private static void casts() {
        says("26", "KINDS (bits) from which all CELLS of a COLUMN COME BACK");
        String[] texts = {"z(1,0)", "b(-128,127)", "b(0,1)", "c(0,65535)", "s(-1,5)", "i(1,300)", "l(40000,1)", "f(1,4)", "d(4,8)", "w(5,_)",
            "w(5,6)", "w(_,_)", "o(i1,'a)", "o(_,'a)", "n(a,_)", "n(_,_)"};
        int[] due = {0b01111111111, 0b01111111110, 0b01111111111, 0b01111111110, 0b01111111110, 0b01111111100, 0b01111110100,
            0b01011000000, 0b01111111110, 0b01100000000, 0b01111111110, 0b11100000000, 0b01000000000, 0b11000000000, 0b11000000000,
            0b11100000000};
        for (int i = 0; i < texts.length; i++) {
            due(texts[i], table(2, texts[i]).casts(0), due[i]);
        }
        for (int kind = 0; kind < 11; kind++) {
            due("new ones of kind " + kind, table(40, LETTERS.charAt(kind) + "()").casts(0), kind < 8 ? 0b01111111111 : 0b11100000000);
            due("none of kind " + kind, table(0, LETTERS.charAt(kind) + "()").casts(0), 0b11111111111);
        }
        asks("longs", x -> x.casts(LONGS), 0b01111111110);
        asks("any", x -> x.casts(ANYS), 0b01000000000);
    }

    private static void castsRefused() {
        says("26", "COLUMN");
        refusesColumns("casts", (x, c) -> x.casts(c));
    }

    private static void cast() {
        says("27", "All CELLS of a COLUMN are cast: the KIND it had; -1000 less the first ROW whose CELL doesn't COME BACK");
        for (int from = 0; from < 8; from++) {
            for (int to = 0; to < 11; to++) {
                String one = from < 6 ? "1" : "4";
                ColumnCasts x = table(3, LETTERS.charAt(from) + "(0," + one + ")");
                boolean isLost = to == 10;
                due("cast of " + from + " to " + to, x.cast(0, to), isLost ? -1000 : from);
                due("kind " + from + " cast to " + to, x.kindOf(0), isLost ? from : to);
                String item = to == 9 ? LETTERS.charAt(from) + one : to == 6 || to == 7 ? "4" : isLost ? one : "1";
                String zero = to == 9 ? LETTERS.charAt(from) + "0" : "0";
                char letter = LETTERS.charAt(isLost ? from : to);
                due("cells of " + from + " cast to " + to, Checks.spelled(x, 0), letter + "(" + zero + "," + item + "," + zero + ")");
            }
        }
        ColumnCasts x = busy();
        due("cast", x.cast(LONGS, 7), 5);
        due("another column", Checks.spelled(x, LIKE_LONGS), "l(9,8,9)");
        due("view 0", Checks.viewed(x, 0), "[1, 2, 0]");
        due("view 1", Checks.viewed(x, 1), "[0, 2]");
        due("rows that view 1 has not", Checks.spelled(x, LONGS), "d(12,4,8)");
        due("keys", x.count(2), 3);
        due("filters", x.count(3), 2);
        due("got", x.got(), bits(2.0));
        due("as an int may be written then", x.write(LONGS, 0, 4, 6), 1);
        holds("as a double", x, LONGS, 0, 107, bits(6.0));
    }

    private static void castLost() {
        says("27", "All CELLS of a COLUMN are cast: the KIND it had; -1000 less the first ROW whose CELL doesn't COME BACK");
        refuses("doubles to ints", x -> x.cast(DOUBLES, 4), -1000);
        refuses("any to words", x -> x.cast(ANYS, 10), -1000);
        refuses("any to ints", x -> x.cast(ANYS, 4), -1001);
        refuses("any to boxes", x -> x.cast(ANYS, 8), -1001);
        refuses("boxes to ints", x -> x.cast(BOXES, 4), -1000);
        refuses("boxes to words", x -> x.cast(BOXES, 10), -1001);
        refuses("the third to bytes", () -> table(3, "i(1,2,300)"), x -> x.cast(0, 1), -1002);
        ColumnCasts last = table(40, "i()");
        last.write(0, 39, 4, 2);
        due("the last of 40 to booleans", last.cast(0, 0), -1039);
        due("still ints", last.kindOf(0), 4);
        last.write(0, 39, 4, 1);
        due("40 to booleans", last.cast(0, 0), 4);
        due("booleans", last.kindOf(0), 0);
        due("the last of them", last.ask(0, 39, 0), 1);
        due("true", last.got(), 1);
    }

    private static void castOfNothingAndWords() {
        says("27", "All CELLS of a COLUMN are cast: the KIND it had; -1000 less the first ROW whose CELL doesn't COME BACK");
        ColumnCasts x = table(3, "o(_,b1,d4)");
        due("any to boxes", x.cast(0, 8), 9);
        due("boxes", Checks.spelled(x, 0), "w(_,1,1)");
        due("boxes to any", x.cast(0, 9), 8);
        due("any again", Checks.spelled(x, 0), "o(_,i1,i1)");
        due("any to any", x.cast(0, 9), 9);
        due("any still", Checks.spelled(x, 0), "o(_,i1,i1)");
        x.size(1);
        due("nothing to words", x.cast(0, 10), 9);
        due("nothing to boxes", x.cast(0, 8), 10);
        due("nothing to ints", x.cast(0, 4), -1000);
        x.size(0);
        due("no cells to ints", x.cast(0, 4), 8);
        x.size(2);
        due("new ones of the kind it is cast to", Checks.spelled(x, 0), "i(0,0)");
        ColumnCasts y = table(3, "n(a,_,zz)");
        due("words to any", y.cast(0, 9), 10);
        due("any", Checks.spelled(y, 0), "o('a,_,'zz)");
        due("any to words", y.cast(0, 10), 9);
        due("words again", Checks.spelled(y, 0), "n(a,_,zz)");
        due("words to words", y.cast(0, 10), 10);
    }

    private static void castRefused() {
        says("27", "COLUMN; BAD");
        for (int kind : NO_KINDS) {
            refuses("kind " + kind, x -> x.cast(LONGS, kind), BAD);
            refuses("kind " + kind + " of no rows", () -> table(0, "i()"), x -> x.cast(0, kind), BAD);
            refusesColumns("kind " + kind, (x, c) -> x.cast(c, kind));
        }
        refusesColumns("cast", (x, c) -> x.cast(c, 9));
    }
}
