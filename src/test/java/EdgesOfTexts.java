/** Terms 3: columns read from texts and spelled, the image. */
final class EdgesOfTexts extends Edges {
    private static final String LETTERS = "zbcsilfdwon";
    private static final String NUMBERED = "zbcsilfd";

    static void all() {
        kindsByLetter();
        items();
        hundredBytes();
        numbers();
        numbersOfBoxes();
        words();
        any();
        blanks();
        faultsOfEarlyEnds();
        faultsOfBytes();
        faultsOfTooMany();
        faultsBehindTheEnd();
        spelled();
        spelledNumbers();
        spelledReals();
        spelledOfAllRows();
        imaged();
        imagedWithout();
    }

    /** The text is read into a new table of so many rows, and the column spelled so. */
    private static void read(int rows, String text, String spelled) {
        ColumnCasts x = Checks.rows(rows);
        due("read of " + text + " by " + rows + " rows", Checks.read(x, text), 0);
        due("what came of " + text, Checks.spelled(x, 0), spelled);
    }

    /** The text is refused at a place, and leaves no column and no text. */
    private static void fault(int rows, String text, int place) {
        ColumnCasts x = Checks.rows(rows);
        due("fault of " + text + " by " + rows + " rows", Checks.read(x, text), -10 - place);
        due("columns behind " + text, x.count(1), 0);
        due("bytes behind " + text, x.count(7), 0);
        due("refused behind " + text, Checks.refused(x), "0 0 0");
    }

    private static void kindsByLetter() {
        says("T3", "A COLUMN is read from THE TEXT (bytes, 100 at most): a letter of z b c s i l f d (KINDS 0 .. 7 in this order), w (8), o (9), n (10)", 29);
        ColumnCasts x = new ColumnCasts();
        for (int kind = 0; kind < 11; kind++) {
            due("read by letter " + LETTERS.charAt(kind), Checks.read(x, LETTERS.charAt(kind) + "()"), kind);
            due("kind by letter " + LETTERS.charAt(kind), x.kindOf(kind), kind);
        }
        ColumnCasts y = new ColumnCasts();
        for (int sign = 0; sign < 128; sign++) {
            due("feed of sign " + sign, y.feed(sign), 1);
            due("read of sign " + sign, y.read(), LETTERS.indexOf(sign) >= 0 ? -11 : -10);
        }
    }

    private static void items() {
        says("T3", "( ITEMS ): none, or some with , between, no more than there are ROWS: of the first ROWS, others are as new ones", 29);
        String[] news = {"z(0,0,0)", "b(0,0,0)", "c(0,0,0)", "s(0,0,0)", "i(0,0,0)", "l(0,0,0)", "f(0,0,0)", "d(0,0,0)",
            "w(_,_,_)", "o(_,_,_)", "n(_,_,_)"};
        for (int kind = 0; kind < 11; kind++) {
            read(3, LETTERS.charAt(kind) + "()", news[kind]);
            read(0, LETTERS.charAt(kind) + "()", LETTERS.charAt(kind) + "()");
        }
        read(3, "i(7)", "i(7,0,0)");
        read(3, "i(7,8)", "i(7,8,0)");
        read(3, "i(7,8,9)", "i(7,8,9)");
        read(1, "i(7)", "i(7)");
        read(3, "w(7)", "w(7,_,_)");
        read(3, "o(d7,'a)", "o(d7,'a,_)");
        read(3, "n(a)", "n(a,_,_)");
        fault(3, "i(7,8,9,1)", 7);
        fault(1, "i(7,8)", 3);
        read(40, "z(1" + ",1".repeat(39) + ")", "z(1" + ",1".repeat(39) + ")");
        read(40, "z(1" + ",1".repeat(38) + ")", "z(1" + ",1".repeat(38) + ",0)");
        fault(40, "z(1" + ",1".repeat(40) + ")", 81);
        ColumnCasts x = table(3, "i(7,8,9)", "o(i7,i8,i9)");
        due("read behind others", Checks.read(x, "i(1)"), 2);
        due("no items of one read ahead", Checks.spelled(x, 2), "i(1,0,0)");
        due("read behind others", Checks.read(x, "o()"), 3);
        due("no items of one read ahead", Checks.spelled(x, 3), "o(_,_,_)");
    }

    private static void hundredBytes() {
        says("T3", "(bytes, 100 at most)", 28, 29);
        String text = "i(10" + ",10".repeat(17) + ",1".repeat(22) + ")";
        due("bytes", text.length(), 100);
        read(40, text, text);
        fault(40, text.substring(0, 99), 99);
        fault(40, text.substring(0, 99) + "0", 100);
        fault(40, text.substring(0, 99) + ",", 99);
        fault(40, "i(10" + ",10".repeat(16) + ",1".repeat(23) + "))", 99);
        ColumnCasts x = Checks.rows(40);
        Checks.feed(x, text);
        due("a byte more", x.feed(')'), FULL);
        due("still 100", x.count(7), 100);
        due("read all the same", x.read(), 0);
    }

    private static void numbers() {
        says("T3", "ITEM: of KINDS 0 .. 7 a number, perhaps -, 1 to 6 digits: MADE of it;", 29);
        read(2, "i(0,9)", "i(0,9)");
        read(2, "i(-0,-9)", "i(0,-9)");
        read(2, "i(999999,-999999)", "i(999999,-999999)");
        read(2, "i(000001,-000001)", "i(1,-1)");
        read(2, "i(000000,123456)", "i(0,123456)");
        for (int kind = 0; kind < 8; kind++) {
            String begin = LETTERS.charAt(kind) + "(";
            fault(2, begin + ",", 2);
            fault(2, begin + "-)", 3);
            fault(2, begin + "--1)", 3);
            fault(2, begin + "1-)", 3);
            fault(2, begin + "+1)", 2);
            fault(2, begin + "_)", 2);
            fault(2, begin + "a)", 2);
            fault(2, begin + "'a)", 2);
            fault(2, begin + "i1)", 2);
            fault(2, begin + "1.5)", 3);
            fault(2, begin + "/)", 2);
            fault(2, begin + ":)", 2);
            fault(2, begin + "1/)", 3);
            fault(2, begin + "1:)", 3);
            fault(2, begin + "1234567)", 8);
            fault(2, begin + "0000000)", 8);
            fault(2, begin + "-1234567)", 9);
            fault(2, begin + "1,1234567)", 10);
        }
    }

    /** What cell a number is read to, and what is held of it. */
    private static void numberOf(String text, int kind, long number) {
        holds(text, table(1, text), 0, 0, 100 + kind, number);
    }

    private static void numbersOfBoxes() {
        says("T3", "ITEM: of KINDS 0 .. 7 a number, perhaps -, 1 to 6 digits: MADE of it;", 29);
        numberOf("z(2)", 0, 0);
        numberOf("z(-1)", 0, 1);
        numberOf("z(999999)", 0, 1);
        numberOf("b(127)", 1, 127);
        numberOf("b(128)", 1, -128);
        numberOf("b(-129)", 1, 127);
        numberOf("c(65535)", 2, 65535);
        numberOf("c(65536)", 2, 0);
        numberOf("c(-1)", 2, 65535);
        numberOf("s(32768)", 3, -32768);
        numberOf("s(-32769)", 3, 32767);
        numberOf("i(999999)", 4, 999999);
        numberOf("l(-999999)", 5, -999999);
        numberOf("f(1)", 6, bits(0.25f));
        numberOf("f(-999999)", 6, bits(-249999.75f));
        numberOf("f(-0)", 6, 0);
        numberOf("d(1)", 7, bits(0.25));
        numberOf("d(999999)", 7, bits(249999.75));
        numberOf("d(-0)", 7, 0);
        numberOf("w(-999999)", 4, -999999);
        numberOf("o(b-129)", 1, 127);
        numberOf("o(d-0)", 7, 0);
    }

    private static void words() {
        says("T3", "of w _ (NOTHING) or a number; of n _ or 1 or 2 letters a .. z;", 29);
        read(3, "w(_,5,-999999)", "w(_,5,-999999)");
        read(1, "w(_)", "w(_)");
        fault(2, "w(__)", 3);
        fault(2, "w(_1)", 3);
        fault(2, "w(-_)", 3);
        fault(2, "w(1_)", 3);
        fault(2, "w(i1)", 2);
        fault(2, "w(a)", 2);
        fault(2, "w('a)", 2);
        fault(2, "w(1234567)", 8);
        read(3, "n(_,a,z)", "n(_,a,z)");
        read(3, "n(aa,az,zz)", "n(aa,az,zz)");
        fault(2, "n(__)", 3);
        fault(2, "n(_a)", 3);
        fault(2, "n(a_)", 3);
        fault(2, "n(abc)", 4);
        fault(2, "n(1)", 2);
        fault(2, "n(a1)", 3);
        fault(2, "n('a)", 2);
        fault(2, "n(-)", 2);
        fault(2, "n(A)", 2);
        fault(2, "n(`)", 2);
        fault(2, "n({)", 2);
        fault(2, "n(a`)", 3);
        fault(2, "n(a{)", 3);
        fault(2, "n(,)", 2);
    }

    private static void any() {
        says("T3", "of o _, a letter of z b c s i l f d and a number, or ' and 1 or 2 letters", 29);
        for (int kind = 0; kind < 8; kind++) {
            String item = NUMBERED.charAt(kind) + "1";
            read(2, "o(" + item + ",_)", "o(" + item + ",_)");
            holds(item, table(1, "o(" + item + ")"), 0, 0, 100 + kind, kind == 6 ? bits(0.25f) : kind == 7 ? bits(0.25) : 1);
            fault(2, "o(" + NUMBERED.charAt(kind) + ")", 3);
            fault(2, "o(" + NUMBERED.charAt(kind) + "_)", 3);
            fault(2, "o(" + NUMBERED.charAt(kind) + "-)", 4);
            fault(2, "o(" + item + "234567)", 9);
        }
        read(3, "o('a,'z,'zz)", "o('a,'z,'zz)");
        for (String item : new String[] {"w1", "o1", "n1", "n_", "1", "-1", "a", "e1", "''", ""}) {
            fault(2, "o(" + item + ",)", item.startsWith("'") ? 3 : 2);
        }
        fault(2, "o('_)", 3);
        fault(2, "o('1)", 3);
        fault(2, "o('A)", 3);
        fault(2, "o(')", 3);
        fault(2, "o('abc)", 5);
        fault(2, "o(__)", 3);
        fault(2, "o(_i1)", 3);
    }

    private static void blanks() {
        says("T3", "No blanks", 29);
        String text = "o(i-12,'ab,_)";
        for (char blank : new char[] {' ', '\t', '\n', '\r', 0}) {
            for (int k = 0; k <= text.length(); k++) {
                fault(3, text.substring(0, k) + blank + text.substring(k), k);
            }
        }
        fault(3, "i (1)", 1);
        fault(3, "i( )", 2);
        fault(3, "i(1, 2)", 4);
        fault(3, "i(1 ,2)", 3);
    }

    private static void faultsOfEarlyEnds() {
        says("T3", "(the end of THE TEXT, if it ends too early;", 29);
        fault(3, "", 0);
        for (String text : new String[] {"i(1,-234567)", "w(_,-5)", "o(_,d-1,'ab)", "n(_,ab,c)", "f()"}) {
            for (int k = 0; k < text.length(); k++) {
                fault(3, text.substring(0, k), k);
            }
        }
        fault(0, "i(", 2);
        fault(1, "i(1", 3);
    }

    private static void faultsOfBytes() {
        says("T3", "The FAULT: the place of the first byte with which none begins so", 29);
        for (String text : new String[] {"i(1,-234567)", "w(_,-5)", "o(_,d-1,'ab)", "n(_,ab,c)", "f()"}) {
            for (int k = 0; k < text.length(); k++) {
                fault(3, text.substring(0, k) + '!' + text.substring(k + 1), k);
            }
        }
        fault(3, "x(1)", 0);
        fault(3, "(1)", 0);
        fault(3, "I(1)", 0);
        fault(3, "i)", 1);
        fault(3, "i1)", 1);
        fault(3, "ii(1)", 1);
        fault(3, "i((1)", 2);
        fault(3, "i(,1)", 2);
        fault(3, "i(1,)", 4);
        fault(3, "i(1,,2)", 4);
        fault(3, "i(1;2)", 3);
        fault(3, "x!", 0);
        fault(3, "i(1x,y,", 3);
    }

    private static void faultsOfTooMany() {
        says("T3", "a , with which there would be too many: its own)", 29);
        fault(1, "i(1,", 3);
        fault(1, "i(1,!", 3);
        fault(2, "i(1,2,3)", 5);
        fault(2, "w(_,_,_)", 5);
        fault(2, "o('a,_,_)", 6);
        fault(2, "n(a,bc,d)", 6);
        read(2, "i(1,2)", "i(1,2)");
        fault(39, "z(1" + ",1".repeat(39) + ")", 79);
        read(40, "z(1" + ",1".repeat(39) + ")", "z(1" + ",1".repeat(39) + ")");
        ColumnCasts x = table(3, "i(1,2,3)");
        x.size(2);
        due("of rows that are no more", Checks.read(x, "i(1,2,3)"), -15);
    }

    private static void faultsBehindTheEnd() {
        says("T3", "The FAULT: the place of the first byte with which none begins so", 29);
        fault(3, "i())", 3);
        fault(3, "i(1)i(2)", 4);
        fault(3, "i(1),", 4);
        fault(3, "i(1)\0", 4);
        fault(3, "w(_)_", 4);
        fault(0, "n()a", 3);
        fault(3, "i()" + ")".repeat(97), 3);
    }

    private static void spelled() {
        says("T3", "SPELLED: the TEXT of a COLUMN with all CELLS, numbers without 0 ahead:", 30);
        for (int kind = 0; kind < 11; kind++) {
            String letter = String.valueOf(LETTERS.charAt(kind));
            due("kind " + kind + " of no rows", Checks.spelled(table(0, letter + "()"), 0), letter + "()");
            due("kind " + kind + " of one row", Checks.spelled(table(1, letter + "()"), 0), letter + (kind < 8 ? "(0)" : "(_)"));
            due("kind " + kind + " of two rows", Checks.spelled(table(2, letter + "()"), 0), letter + (kind < 8 ? "(0,0)" : "(_,_)"));
        }
        read(3, "i(007,-00,-010)", "i(7,0,-10)");
        read(3, "w(007,_,000)", "w(7,_,0)");
        read(3, "o(i-001,'b,_)", "o(i-1,'b,_)");
        read(3, "f(001,-004,000)", "f(1,-4,0)");
        ColumnCasts x = Checks.rows(1);
        x.column(10);
        int[] words = {1, 26, 27, 52, 53, 702};
        String[] texts = {"n(a)", "n(z)", "n(aa)", "n(az)", "n(ba)", "n(zz)"};
        for (int i = 0; i < words.length; i++) {
            x.write(0, 0, WORD, words[i]);
            due("word of " + words[i], Checks.spelled(x, 0), texts[i]);
        }
    }

    /** How a box of a kind, written into a column of any kind, is spelled. */
    private static void spelledBox(int kind, long v, String item) {
        due("kind " + kind + " of " + v, Checks.spelled(cells(new long[] {10 + kind, v}), 0), "o(" + item + ")");
        ColumnCasts x = one(kind);
        x.write(0, 0, kind, v);
        due("kind " + kind + " of " + v + " in its own", Checks.spelled(x, 0), item.charAt(0) + "(" + item.substring(1) + ")");
    }

    private static void spelledNumbers() {
        says("T3", "FLOATS, DOUBLES four times, cast to a long, others the NUMBER", 30);
        spelledBox(0, 1, "z1");
        spelledBox(0, 2, "z0");
        spelledBox(1, 127, "b127");
        spelledBox(1, 128, "b-128");
        spelledBox(2, -1, "c65535");
        spelledBox(2, 0, "c0");
        spelledBox(3, 32767, "s32767");
        spelledBox(3, 32768, "s-32768");
        spelledBox(4, MAX, "i2147483647");
        spelledBox(4, MIN, "i-2147483648");
        spelledBox(5, MOST, "l9223372036854775807");
        spelledBox(5, LEAST, "l-9223372036854775808");
        spelledBox(5, 1000000000000000000L, "l1000000000000000000");
        spelledBox(5, -10, "l-10");
    }

    private static void spelledReals() {
        says("T3", "FLOATS, DOUBLES four times, cast to a long, others the NUMBER", 30);
        for (int kind = 6; kind < 8; kind++) {
            String letter = String.valueOf(LETTERS.charAt(kind));
            spelledBox(kind, 0, letter + "0");
            spelledBox(kind, 1, letter + "1");
            spelledBox(kind, -1, letter + "-1");
            spelledBox(kind, 3, letter + "3");
            spelledBox(kind, 4, letter + "4");
            spelledBox(kind, 1 << 24, letter + "16777216");
            spelledBox(kind, 1L << 62, letter + "4611686018427387904");
            spelledBox(kind, -(1L << 62), letter + "-4611686018427387904");
            // Made of the most long they are a quarter of what is one more than it.
            spelledBox(kind, MOST, letter + "9223372036854775807");
            spelledBox(kind, LEAST, letter + "-9223372036854775808");
            ColumnCasts x = Checks.rows(4);
            x.column(kind);
            x.write(0, 0, 5, 1);
            x.write(0, 1, 5, MOST);
            x.write(0, 2, 5, LEAST);
            x.write(0, 3, 5, 1L << 61);
            due("four times beyond a long's", Checks.spelled(x, 0),
                letter + "(4,9223372036854775807,-9223372036854775808,9223372036854775807)");
        }
        spelledBox(6, (1 << 24) + 1, "f16777216");
        spelledBox(7, (1L << 53) + 1, "d9007199254740992");
        spelledBox(7, (1L << 53) - 1, "d9007199254740991");
    }

    private static void spelledOfAllRows() {
        says("T3", "SPELLED: the TEXT of a COLUMN with all CELLS, numbers without 0 ahead:", 30);
        ColumnCasts x = Checks.rows(20);
        x.column(9);
        for (int r = 0; r < 20; r++) {
            x.write(0, r, 15, LEAST);
        }
        String text = "o(l-9223372036854775808" + ",l-9223372036854775808".repeat(19) + ")";
        for (int i = 0; i < text.length(); i += 2) {
            due("sign " + i, x.spelled(0, i), text.charAt(i));
        }
        due("none behind the last", x.spelled(0, text.length()), NO_SUCH);
        due("the last of the longest", longest().spelled(0, 881), ')');
        due("none behind the longest", longest().spelled(0, 882), NO_SUCH);
        x.keep(0, 0, 3, 4, 0);
        due("views do not matter", x.spelled(0, text.length() - 1), ')');
        due("read with all rows", Checks.spelled(table(3, "i(1)"), 0), "i(1,0,0)");
    }

    /** 40 of the longest items. */
    private static ColumnCasts longest() {
        ColumnCasts x = Checks.rows(40);
        x.column(9);
        for (int r = 0; r < 40; r++) {
            x.write(0, r, 15, LEAST);
        }
        return x;
    }

    private static void imaged() {
        says("T3", "THE IMAGE: THE TABLE, VIEWS, KEYS, FILTERS", 31, 32);
        String state = State.ofTable(busy());
        undone("rows less", x -> x.size(1), state);
        undone("no rows", x -> x.size(0), state);
        undone("rows more", x -> x.size(40), state);
        undone("rows anew", x -> x.size(0) + x.size(3), state);
        undone("a column more", x -> x.column(4), state);
        undone("a column read", x -> x.feed(')') + x.read(), state);
        undone("a column gone", x -> x.drop(LONGS), state);
        undone("a cell", x -> x.write(LONGS, 0, 5, 77), state);
        undone("cells brought", x -> x.bring(LONGS, 0, LIKE_LONGS, 1, 2), state);
        undone("rows swapped", x -> x.swap(0, 2), state);
        undone("a column cast", x -> x.cast(LONGS, 7), state);
        undone("view 0", x -> x.view(0), state);
        undone("view 1", x -> x.view(1), state);
        undone("view 0 kept", x -> x.keep(0, LONGS, 1, 4, 1), state);
        undone("view 1 kept", x -> x.keep(1, LONGS, 1, 4, 1), state);
        undone("view 1 run", x -> x.run(1), state);
        undone("a key more", x -> x.key(LONGS, true), state);
        undone("no keys", x -> x.key(-1, true), state);
        undone("unlike keys", x -> x.key(-1, true) + x.key(ANYS, true) + x.key(ANYS, true) + x.key(ANYS, true), state);
        undone("a filter more", x -> x.filter(LONGS, 1, 4, 1), state);
        undone("no filters", x -> x.filter(-1, 1, 4, 1), state);
        undone("unlike filters", x -> x.filter(-1, 0, 0, 0) + x.filter(ANYS, 3, 4, 1) + x.filter(ANYS, 3, 4, 1) + x.filter(ANYS, 3, 4, 1), state);
        undone("filters but for what they are told", x -> x.filter(-1, 0, 0, 0) + x.filter(ANYS, 4, 10, 7) + x.filter(LONGS, 2, 5, 2), state);
        undone("view 1 sorted", x -> x.view(1) + x.sort(1), state);
    }

    private static void undone(String what, Call change, String state) {
        ColumnCasts x = busy();
        due(what + ", image", x.image(), 3);
        change.on(x);
        due(what + ", undo", x.undo(), 3);
        due(what + ", undone", State.ofTable(x), state);
        due(what + ", sorted then", x.sort(0), busy().sort(0));
        due(what + ", view 0 then", Checks.viewed(x, 0), "[1, 2, 0]");
    }

    private static void imagedWithout() {
        says("T3", "THE IMAGE: THE TABLE, VIEWS, KEYS, FILTERS", 32);
        ColumnCasts x = table(2, "i(1,2)");
        Checks.feed(x, "i(3");
        x.ask(0, 1, 4);
        x.image();
        Checks.feed(x, ",4)");
        x.ask(0, 0, 4);
        x.undo();
        due("the text is no part of it", x.count(7), 6);
        due("got is no part of it", x.got(), 1);
        due("read behind undo", x.read(), 1);
        due("what was read", Checks.spelled(x, 1), "i(3,4)");
    }
}
