/** Promises 28 to 33: texts, the image. */
public final class TextsTest {
    private static final int MIN = Integer.MIN_VALUE, MAX = Integer.MAX_VALUE;

    private static void due(String what, long got, long want) {
        Checks.due(what, got, want);
    }

    private static void feed() {
        ColumnCasts x = new ColumnCasts();
        due("28: sign 0", x.feed(0), 1);
        due("28: sign 127", x.feed(127), 2);
        for (int bad : new int[] {128, -1, MIN, MAX}) {
            due("28: sign " + bad, x.feed(bad), ColumnCasts.BAD);
        }
        for (int n = 3; n <= 100; n++) {
            due("28: sign " + n, x.feed(')'), n);
        }
        due("28: full", x.feed(')'), ColumnCasts.FULL);
        due("28: bad ahead of full", x.feed(128), ColumnCasts.BAD);
        due("28: 100 bytes", x.count(7), 100);
        due("28: of no column", x.read(), -10);
        due("28: empty then", x.feed('i'), 1);
    }

    private static void wellRead(int rows, String text, String spelled) {
        ColumnCasts x = Checks.rows(rows);
        due("29: read of " + text, Checks.read(x, text), 0);
        Checks.due("30: spelled of " + text, Checks.spelled(x, 0), spelled);
        due("29: the text is empty behind " + text, x.count(7), 0);
    }

    private static void read() {
        wellRead(3, "z(2,-1,0)", "z(0,1,0)");
        wellRead(3, "b(127,128,-129)", "b(127,-128,127)");
        wellRead(3, "c(-1,65536,97)", "c(65535,0,97)");
        wellRead(3, "s(32768,-32769,65535)", "s(-32768,32767,-1)");
        wellRead(3, "i(999999,-999999,000007)", "i(999999,-999999,7)");
        wellRead(3, "l(-0,00,-000012)", "l(0,0,-12)");
        wellRead(3, "f(1,-3,999999)", "f(1,-3,999999)");
        wellRead(3, "d(1,-3,999999)", "d(1,-3,999999)");
        wellRead(3, "w(_,-5,0)", "w(_,-5,0)");
        wellRead(3, "n(_,a,zz)", "n(_,a,zz)");
        wellRead(9, "n(z,aa,az,ba,bz,za,y,b,a)", "n(z,aa,az,ba,bz,za,y,b,a)");
        wellRead(12, "o(_,'a,'zz,z7,b300,c-1,s1,i-1,l9,f5,d-6)", "o(_,'a,'zz,z1,b44,c65535,s1,i-1,l9,f5,d-6,_)");
        wellRead(3, "i(7)", "i(7,0,0)");
        wellRead(3, "n(a,b)", "n(a,b,_)");
        wellRead(2, "z()", "z(0,0)");
        wellRead(2, "w()", "w(_,_)");
        wellRead(0, "o()", "o()");
        String letters = "zbcsilfdwon";
        for (int kind = 0; kind < 11; kind++) {
            ColumnCasts x = Checks.rows(1);
            due("29: read", Checks.read(x, letters.charAt(kind) + "()"), 0);
            due("29: kind " + kind, x.kindOf(0), kind);
        }
    }

    private static void faulty(int rows, String text, int fault) {
        ColumnCasts x = Checks.rows(rows);
        due("29: read of " + text + " by " + rows, Checks.read(x, text), -10 - fault);
        due("29: no column came by " + text, x.count(1), 0);
        due("29: empty behind " + text, x.count(7), 0);
        Checks.due("29: a fault is not refused", Checks.refused(x), "0 0 0");
    }

    private static void faults() {
        faulty(2, "", 0);
        faulty(2, "x()", 0);
        faulty(2, " i()", 0);
        faulty(2, "i", 1);
        faulty(2, "i[]", 1);
        faulty(2, "i(", 2);
        faulty(2, "i(1", 3);
        faulty(2, "i(1,", 4);
        faulty(2, "i(1,)", 4);
        faulty(2, "i(,", 2);
        faulty(2, "i(1,2,3)", 5);
        faulty(2, "i(1,2,", 5);
        faulty(2, "i(1,2", 5);
        faulty(2, "i(1)x", 4);
        faulty(2, "i()i", 3);
        faulty(2, "i( 1)", 2);
        faulty(2, "i(1 )", 3);
        faulty(2, "i(_)", 2);
        faulty(2, "i(a)", 2);
        faulty(2, "d(_)", 2);
        faulty(2, "f('a)", 2);
        faulty(2, "z(_)", 2);
        faulty(2, "i(--1)", 3);
        faulty(2, "i(-)", 3);
        faulty(2, "i(-", 3);
        faulty(2, "i(1-)", 3);
        faulty(2, "i(+1)", 2);
        faulty(2, "i(1234567)", 8);
        faulty(2, "i(-1234567)", 9);
        faulty(2, "i(123456", 8);
        faulty(2, "w(_1)", 3);
        faulty(2, "w(__)", 3);
        faulty(2, "w('a)", 2);
        faulty(2, "n(1)", 2);
        faulty(2, "n(-)", 2);
        faulty(2, "n(abc)", 4);
        faulty(2, "n(aB)", 3);
        faulty(2, "n(A)", 2);
        faulty(2, "n(a_)", 3);
        faulty(2, "n('a)", 2);
        faulty(2, "n({)", 2);
        faulty(2, "n(`)", 2);
        faulty(2, "o(1)", 2);
        faulty(2, "o(w1)", 2);
        faulty(2, "o(o1)", 2);
        faulty(2, "o(n)", 2);
        faulty(2, "o(i)", 3);
        faulty(2, "o(i_)", 3);
        faulty(2, "o(i-", 4);
        faulty(2, "o(')", 3);
        faulty(2, "o('1)", 3);
        faulty(2, "o('abc)", 5);
        faulty(2, "o(ab)", 2);
        faulty(2, "o(i1,'a,", 7);
        faulty(2, "i(/)", 2);
        faulty(2, "i(:)", 2);
        faulty(0, "i(1)", 2);
        faulty(0, "i(,)", 2);
        faulty(0, "w(_", 2);
        faulty(0, "n()a", 3);
        faulty(1, "n(a,)", 3);
        faulty(9, "i(1,2,3,4,5,6,7,8x", 17);
    }

    /** A fault at place 11 answers -21 and is no refusal; a text of 100 bytes has its end at 100. */
    private static void farFaults() {
        faulty(9, "i(1,2,3,4,5x", 11);
        ColumnCasts x = Checks.rows(40);
        StringBuilder text = new StringBuilder("i(");
        while (text.length() < 100) {
            text.append("12,");
        }
        text.setLength(100);
        due("29: ends too early", Checks.read(x, text.toString()), -110);
        text.setCharAt(99, ')');
        text.setCharAt(98, '7');
        due("29: 100 bytes", Checks.read(x, text.toString()), 0);
        x.ask(0, 32, 4);
        due("29: the last item", x.got(), 7);
    }

    private static void readFull() {
        ColumnCasts x = Checks.rows(2);
        for (int c = 0; c < 12; c++) {
            due("29: column " + c, Checks.read(x, "i(" + c + ")"), c);
        }
        due("29: full", Checks.read(x, "b(3)"), ColumnCasts.FULL);
        due("29: empty by full", x.count(7), 0);
        due("29: a fault ahead of full", Checks.read(x, "b(3"), -13);
        x.drop(5);
        due("29: full behind a drop", Checks.read(x, "b(3)"), ColumnCasts.FULL);
        Checks.due("29: nothing changed", Checks.spelled(x, 11), "i(11,0)");
        due("29: 12 came", x.count(1), 12);
    }

    private static void readItemsAnew() {
        ColumnCasts x = Checks.rows(3);
        due("29: a fault", Checks.read(x, "o(i1,i2,x"), -18);
        due("29: then a column", Checks.read(x, "o(i7)"), 0);
        Checks.due("29: the others are new", Checks.spelled(x, 0), "o(i7,_,_)");
        x.write(0, 1, 19, 3);
        due("29: another", Checks.read(x, "f()"), 1);
        Checks.due("29: new ones", Checks.spelled(x, 1), "f(0,0,0)");
        Checks.due("29: the first stays", Checks.spelled(x, 0), "o(i7,'c,_)");
        x.size(4);
        due("29: more rows", Checks.read(x, "n(a,b,c,d)"), 2);
        Checks.due("29: as many items", Checks.spelled(x, 2), "n(a,b,c,d)");
    }

    private static void spelled() {
        ColumnCasts x = Checks.table(2, "i(-12)", "o('ab,f-6)");
        due("30: sign 0", x.spelled(0, 0), 'i');
        due("30: sign 1", x.spelled(0, 1), '(');
        due("30: sign 2", x.spelled(0, 2), '-');
        due("30: the last", x.spelled(0, 7), ')');
        due("30: behind it", x.spelled(0, 8), -5);
        due("30: sign -1", x.spelled(0, -1), -5);
        due("30: sign MIN", x.spelled(0, MIN), -5);
        due("30: sign MAX", x.spelled(0, MAX), -5);
        due("30: a stroke", x.spelled(1, 2), '\'');
        due("30: not there", x.spelled(2, 0), ColumnCasts.NOTHING);
        due("30: no number", x.spelled(12, 0), ColumnCasts.NONE);
        x.drop(0);
        due("30: gone", x.spelled(0, 0), ColumnCasts.OTHER);
        Checks.due("30: refused", Checks.refused(x), "0 1 1");
    }

    private static void spelledNumbers() {
        ColumnCasts x = Checks.rows(2);
        x.column(5);
        x.write(0, 0, 5, Long.MIN_VALUE);
        x.write(0, 1, 5, Long.MAX_VALUE);
        Checks.due("30: longs", Checks.spelled(x, 0), "l(-9223372036854775808,9223372036854775807)");
        x.column(7);
        x.write(1, 0, 5, Long.MIN_VALUE);
        x.write(1, 1, 7, Long.MAX_VALUE);
        Checks.due("30: doubles", Checks.spelled(x, 1), "d(-9223372036854775808,9223372036854775807)");
        x.column(6);
        x.write(2, 0, 6, (1L << 24) + 1);
        x.write(2, 1, 4, 10);
        Checks.due("30: floats", Checks.spelled(x, 2), "f(16777216,40)");
        x.size(40);
        x.column(9);
        for (int r = 0; r < 40; r++) {
            x.write(3, r, 15, Long.MIN_VALUE + r % 8);
        }
        StringBuilder text = new StringBuilder("o(");
        for (int r = 0; r < 40; r++) {
            text.append(r == 0 ? "l" : ",l").append(Long.MIN_VALUE + r % 8);
        }
        text.append(')');
        // Some signs, as an object is used for 512 calls at most.
        for (int i = text.length() - 1; i >= 0; i -= 3) {
            Checks.due("30: the longest at " + i, x.spelled(3, i), text.charAt(i));
        }
        Checks.due("30: behind the longest", x.spelled(3, text.length()), -5);
    }

    private static void image() {
        ColumnCasts x = Checks.table(3, "i(3,1,2)", "n(a,_,b)");
        x.key(0, false);
        x.sort(0);
        x.keep(1, 0, 2, 4, 1);
        x.filter(0, 0, 4, 3);
        x.filter(1, 4, 4, 0);
        due("31: image", x.image(), 3);
        change(x);
        due("32: undo", x.undo(), 3);
        asImaged(x);
        change(x);
        due("32: undo again", x.undo(), 3);
        asImaged(x);
        x.write(0, 0, 4, 9);
        x.size(1);
        due("31: an image anew", x.image(), 1);
        x.drop(0);
        due("32: undo to it", x.undo(), 1);
        Checks.due("32: as the new image", Checks.spelled(x, 0), "i(9)");
        Checks.due("32: its views", Checks.viewed(x, 0) + Checks.viewed(x, 1), "[0][0]");
    }

    private static void change(ColumnCasts x) {
        x.swap(0, 1);
        x.write(1, 1, 19, 9);
        x.cast(0, 5);
        x.drop(0);
        x.column(0);
        x.size(1);
        x.size(7);
        x.view(1);
        x.key(1, true);
        x.key(-1, false);
        x.key(1, true);
        x.sort(0);
        x.sort(1);
        x.filter(-1, 0, 0, 0);
        x.filter(1, 3, 0, 0);
        x.run(0);
    }

    private static void asImaged(ColumnCasts x) {
        due("32: rows", x.count(0), 3);
        due("32: columns", x.count(1), 2);
        due("32: keys", x.count(2), 1);
        due("32: filters", x.count(3), 2);
        due("32: kind", x.kindOf(0), 4);
        due("32: not there", x.kindOf(2), ColumnCasts.NOTHING);
        Checks.due("32: cells", Checks.spelled(x, 0) + Checks.spelled(x, 1), "i(3,1,2)n(a,_,b)");
        Checks.due("32: view 0", Checks.viewed(x, 0), "[1, 2, 0]");
        Checks.due("32: view 1", Checks.viewed(x, 1), "[0, 2]");
        Checks.due("32: filters in order", Checks.ordered(x, 0), "5 [0, 1]");
        due("32: looked", x.looked(1), 3);
        due("32: by the key", x.sort(1), 2);
        x.sort(1);
        Checks.due("32: sorted", Checks.viewed(x, 1), "[2, 0]");
    }

    private static void undo() {
        ColumnCasts x = Checks.rows(2);
        due("32: no image", x.undo(), ColumnCasts.STATE);
        due("31: image of no columns", x.image(), 2);
        x.column(4);
        x.ask(0, 1, 4);
        x.write(0, 1, 4, 77);
        x.ask(0, 1, 4);
        x.ask(0, 2, 4);
        x.ask(0, 0, 0);
        x.ask(1, 0, 0);
        Checks.feed(x, "i(5");
        due("32: undo", x.undo(), 2);
        due("32: got stays", x.got(), 77);
        Checks.due("32: what was refused counts on", Checks.refused(x), "1 1 1");
        due("32: the column came not", x.kindOf(0), ColumnCasts.NOTHING);
        due("32: the text stays", x.count(7), 3);
        x.feed(')');
        due("32: it is read", x.read(), 0);
        Checks.due("32: with its number anew", Checks.spelled(x, 0), "i(5,0)");
    }

    private static void undoOfDrop() {
        ColumnCasts x = Checks.table(2, "i(1,2)");
        x.image();
        x.drop(0);
        x.undo();
        Checks.due("32: no more gone", Checks.spelled(x, 0), "i(1,2)");
        x.drop(0);
        x.image();
        x.column(9);
        x.undo();
        due("32: gone as in the image", x.kindOf(0), ColumnCasts.OTHER);
        x.column(3);
        x.drop(1);
        x.undo();
        due("32: column 1 comes anew", x.column(8), 1);
        due("32: it is there", x.kindOf(1), 8);
    }

    /** As much as an image can hold. */
    private static void fullImage() {
        ColumnCasts x = Checks.table(40, "i(3,4,2)", "n(a,b,a)");
        for (int c = 2; c < 12; c++) {
            x.column(4);
        }
        x.write(11, 39, 4, 7);
        x.key(1, true);
        x.key(0, false);
        x.key(0, true);
        x.key(11, true);
        for (int f = 0; f < 6; f++) {
            x.filter(11, 2, 4, f + 1);
        }
        x.keep(1, 0, 2, 4, 0);
        due("31: full", x.image(), 40);
        x.key(-1, true);
        x.key(2, false);
        x.filter(-1, 0, 0, 0);
        x.filter(0, 3, 4, 0);
        x.write(11, 39, 4, 2);
        x.view(1);
        due("32: full", x.undo(), 40);
        due("32: four keys", x.count(2), 4);
        due("32: sorted by them", x.sort(1), 3);
        Checks.due("32: in their order", Checks.viewed(x, 1), "[1, 2, 0]");
        due("32: six filters", x.count(3), 6);
        Checks.due("32: looked at", Checks.ordered(x, 0), "45 [0, 1, 2, 3, 4, 5]");
        due("32: the last one leaves it", x.run(0), 1);
        x.ask(11, 39, 4);
        due("32: the last cell", x.got(), 7);
    }

    private static void count() {
        ColumnCasts x = Checks.table(2, "i(1,2)", "n()");
        x.drop(1);
        x.key(0, true);
        x.key(0, true);
        x.key(0, true);
        for (int f = 0; f < 4; f++) {
            x.filter(0, 1, 4, 0);
        }
        Checks.feed(x, "w(1,2");
        x.ask(0, 2, 4);
        x.swap(0, 9);
        x.differs(-1, 0);
        x.bring(0, 0, 0, 0, 3);
        x.write(0, 5, 4, 0);
        x.write(0, 0, 5, 0);
        x.kindOf(1);
        x.kindOf(2);
        x.kindOf(12);
        x.size(41);
        int[] due = {2, 2, 3, 4, 5, 2, 1, 5};
        for (int what = 0; what < 8; what++) {
            due("33: count " + what, x.count(what), due[what]);
        }
        for (int what : new int[] {8, -1, MIN, MAX}) {
            due("33: count " + what, x.count(what), ColumnCasts.BAD);
        }
    }

    public static void main(String[] args) {
        feed();
        read();
        faults();
        farFaults();
        readFull();
        readItemsAnew();
        spelled();
        spelledNumbers();
        image();
        undo();
        undoOfDrop();
        fullImage();
        count();
        Checks.end();
    }
}
