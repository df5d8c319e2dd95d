/** Promises 22 to 27: pairs, groups, casts. */
public final class GroupsTest {
    private static final int MIN = Integer.MIN_VALUE, MAX = Integer.MAX_VALUE;

    private static void due(String what, long got, long want) {
        Checks.due(what, got, want);
    }

    private static void pair() {
        ColumnCasts x = Checks.table(4, "i(2,1,2,5)", "d(8,4,0,8)", "o(z1,'b,i1,_)", "n(b,_,a,b)", "z(1,0,1,0)");
        Checks.due("22: ints and doubles", Checks.paired(x, 0, 1), "5 [0, 3, 101, 200, 203]");
        Checks.due("22: the other way", Checks.paired(x, 1, 0), "5 [0, 2, 101, 300, 302]");
        Checks.due("22: words", Checks.paired(x, 2, 3), "2 [100, 103]");
        Checks.due("22: booleans", Checks.paired(x, 2, 4), "2 [0, 2]");
        Checks.due("22: a boolean is no number", Checks.paired(x, 4, 0), "0 []");
        Checks.due("22: nothing fits nothing", Checks.paired(x, 3, 3), "5 [0, 3, 202, 300, 303]");
        x.key(0, false);
        x.sort(0);
        x.keep(1, 0, 0, 4, 5);
        x.key(0, true);
        Checks.due("22: in the order of the views", Checks.paired(x, 0, 0), "5 [101, 0, 2, 200, 202]");
        due("22: i 5", x.pair(0, 0, 5), ColumnCasts.NONE);
        due("22: i -2", x.pair(0, 0, -2), ColumnCasts.NONE);
        due("22: i MIN", x.pair(0, 0, MIN), ColumnCasts.NONE);
        due("22: i MAX", x.pair(0, 0, MAX), ColumnCasts.NONE);
    }

    private static void pairRefused() {
        ColumnCasts x = Checks.withGone(2);
        due("22: gone first", x.pair(0, 2, 99), ColumnCasts.OTHER);
        due("22: gone second", x.pair(1, 0, 99), ColumnCasts.OTHER);
        due("22: not there first", x.pair(2, 0, 99), ColumnCasts.NOTHING);
        due("22: not there second", x.pair(1, 11, -1), ColumnCasts.NOTHING);
        due("22: no number first", x.pair(12, 0, -1), ColumnCasts.NONE);
        due("22: no number second", x.pair(1, -1, -1), ColumnCasts.NONE);
        Checks.due("22: refused", Checks.refused(x), "0 2 2");
    }

    private static void group() {
        ColumnCasts x = Checks.table(8, "o(i1,_,'a,l1,_,i1,'a,i1)", "i(5,5,6,5,6,7,7,5)");
        Checks.due("23: of any kind", Checks.grouped(x, 0, 0), "4 0x3 1x2 2x2 3x1");
        x.key(1, true);
        x.sort(1);
        Checks.due("23: in the order of the view", Checks.grouped(x, 1, 1), "3 5x2 2x2 0x4");
        x.keep(1, 1, 0, 4, 7);
        Checks.due("23: of a kept view", Checks.grouped(x, 1, 0), "4 2x1 4x2 0x2 3x1");
        due("23: what 2", x.group(0, 0, 0, 2), ColumnCasts.BAD);
        due("23: what -1", x.group(0, 0, 0, -1), ColumnCasts.BAD);
        due("23: i 4 ahead of what", x.group(0, 0, 4, 9), ColumnCasts.NONE);
        due("23: i -2", x.group(0, 0, -2, 0), ColumnCasts.NONE);
        due("23: i MAX", x.group(0, 0, MAX, 0), ColumnCasts.NONE);
        due("23: what does not matter", x.group(0, 0, -1, MIN), 4);
        due("23: no view ahead of all", x.group(2, 9, 9, 9), ColumnCasts.NONE);
        due("23: no view -1", x.group(-1, 0, -1, 0), ColumnCasts.NONE);
        due("23: not there ahead of i", x.group(0, 2, 9, 9), ColumnCasts.NOTHING);
        due("23: no number", x.group(0, -1, 0, 0), ColumnCasts.NONE);
        x.drop(0);
        due("23: gone", x.group(0, 0, -1, 0), ColumnCasts.OTHER);
        Checks.due("23: refused", Checks.refused(x), "0 1 1");
    }

    private static void groupOfKept() {
        ColumnCasts x = Checks.table(4, "i(1,1,2,3)", "i(0,0,7,8)");
        x.keep(0, 1, 1, 4, 0);
        due("23: kept", x.group(0, 0, -1, 0), 1);
        due("23: no second group", x.group(0, 0, 1, 0), ColumnCasts.NONE);
        due("24: nor a sum of it", x.sum(0, 0, 1, 1), ColumnCasts.NONE);
        due("24: got stays", x.got(), 0);
        x.keep(0, 1, 3, 4, 0);
        due("23: no groups", x.group(0, 0, -1, 0), 0);
        due("23: not even the first", x.group(0, 0, 0, 0), ColumnCasts.NONE);
    }

    /** Doubles are the same by number and kind alone. */
    private static void groupOfNumbers() {
        ColumnCasts x = Checks.table(6, "o(d4,f4,d4,i1,c1,d5)");
        Checks.due("23: unlike kinds", Checks.grouped(x, 0, 0), "5 0x2 1x1 3x1 4x1 5x1");
    }

    private static void summed(ColumnCasts x, int view, int c, int i, int d, int answer, long got) {
        due("24: sum " + view + " " + c + " " + i + " " + d, x.sum(view, c, i, d), answer);
        due("24: got by sum " + view + " " + c + " " + i + " " + d, x.got(), got);
    }

    private static void sum() {
        ColumnCasts x = Checks.table(6, "i(1,2,1,2,1,3)", "b(100,1,100,2,100,-3)", "o(i5,f2,c7,d1,z1,'a)", "f(1,2,3,4,5,6)", "w(_,1,-9)",
            "o(_,z1,'a,_,_,_)", "c(-1,1,-1,1,1,0)");
        summed(x, 0, 0, 0, 1, 5, 300);
        summed(x, 0, 0, 1, 1, 5, 3);
        summed(x, 0, 0, 2, 1, 5, -3);
        summed(x, 0, 0, 0, 2, 5, 12);
        summed(x, 0, 0, 1, 2, 7, Double.doubleToLongBits(0.75));
        summed(x, 0, 0, 2, 2, 5, 0);
        summed(x, 0, 0, 0, 3, 7, Double.doubleToLongBits(2.25));
        summed(x, 0, 0, 0, 4, 5, -9);
        summed(x, 0, 0, 0, 5, 5, 0);
        summed(x, 0, 0, 0, 6, 5, 131071);
        x.keep(1, 1, 0, 4, 100);
        summed(x, 1, 0, 0, 3, 7, Double.doubleToLongBits(1.5));
        summed(x, 1, 0, 1, 1, 5, -3);
        due("24: i 2", x.sum(1, 0, 2, 1), ColumnCasts.NONE);
        due("24: i -1", x.sum(1, 0, -1, 1), ColumnCasts.NONE);
        due("24: i MAX", x.sum(1, 0, MAX, 1), ColumnCasts.NONE);
        due("24: got stays", x.got(), -3);
    }

    /** Rows that do not stand in the view any more do not count, whatever they hold. */
    private static void sumOfKept() {
        ColumnCasts x = Checks.table(4, "i(1,1,1,2)", "o(i1,i2,d4,f8)", "b(3,4,5,6)");
        x.keep(0, 2, 0, 4, 5);
        Checks.due("23: kept", Checks.grouped(x, 0, 0), "1 0x2");
        summed(x, 0, 0, 0, 1, 5, 3);
        summed(x, 0, 0, 0, 2, 5, 7);
        x.keep(1, 2, 2, 4, 4);
        summed(x, 1, 0, 0, 1, 7, Double.doubleToLongBits(1));
        summed(x, 1, 0, 1, 1, 7, Double.doubleToLongBits(2));
        x.write(1, 2, 11, 5);
        x.size(5);
        x.write(0, 4, 4, 1);
        x.write(1, 4, 16, 1);
        summed(x, 1, 0, 0, 1, 7, Double.doubleToLongBits(5.25));
    }

    private static void sumRefused() {
        ColumnCasts x = Checks.withGone(2);
        due("24: no view ahead of all", x.sum(2, 0, 9, 0), ColumnCasts.NONE);
        due("24: no view -1", x.sum(-1, 1, 0, 1), ColumnCasts.NONE);
        due("24: gone first", x.sum(0, 0, 9, 2), ColumnCasts.OTHER);
        due("24: gone second", x.sum(0, 1, 9, 0), ColumnCasts.OTHER);
        due("24: not there first", x.sum(0, 2, 9, 0), ColumnCasts.NOTHING);
        due("24: not there second", x.sum(0, 1, 9, 2), ColumnCasts.NOTHING);
        due("24: no number first", x.sum(0, 12, 0, 0), ColumnCasts.NONE);
        due("24: no number second", x.sum(0, 1, 0, -1), ColumnCasts.NONE);
        due("24: no such group", x.sum(0, 1, 1, 1), ColumnCasts.NONE);
        Checks.due("24: refused", Checks.refused(x), "0 2 2");
    }

    private static void sumOver() {
        ColumnCasts x = Checks.table(3, "i(1,1,1)", "l(0,1,-1)");
        x.write(1, 0, 5, Long.MAX_VALUE);
        due("24: over on the way", x.sum(0, 0, 0, 1), ColumnCasts.OVER);
        due("24: got stays by over", x.got(), 0);
        Checks.due("24: over does not count", Checks.refused(x), "0 0 0");
        x.key(1, false);
        x.sort(0);
        summed(x, 0, 0, 0, 1, 5, Long.MAX_VALUE);
        x.write(1, 0, 5, Long.MIN_VALUE);
        summed(x, 1, 0, 0, 1, 5, Long.MIN_VALUE);
        x.view(0);
        x.key(1, true);
        x.write(1, 1, 5, -1);
        due("24: under on the way", x.sum(0, 0, 0, 1), ColumnCasts.OVER);
        x.column(9);
        x.write(2, 0, 15, Long.MAX_VALUE);
        x.write(2, 1, 15, Long.MAX_VALUE);
        x.write(2, 2, 17, 1);
        summed(x, 0, 0, 0, 2, 7, Double.doubleToLongBits(18446744073709551616.0));
    }

    /** Two ones ahead of 2^53 count, behind it each is lost. */
    private static void sumInOrder() {
        ColumnCasts x = Checks.table(3, "i(1,1,1)", "d(4,4)", "i(1,2,3)");
        x.write(1, 2, 7, 1L << 55);
        summed(x, 0, 0, 0, 1, 7, Double.doubleToLongBits(9007199254740994.0));
        x.key(2, true);
        x.sort(0);
        summed(x, 0, 0, 0, 1, 7, Double.doubleToLongBits(9007199254740992.0));
    }

    private static ColumnCasts oneCell(int kind, int as, long v) {
        ColumnCasts x = Checks.rows(2);
        x.column(kind);
        due("writing " + as + " " + v, x.write(0, 0, as, v), 1);
        x.bring(0, 0, 0, 1, 1);
        return x;
    }

    private static void comesBack(int kind, int as, long v, int bits) {
        ColumnCasts x = oneCell(kind, as, v);
        due("26: by kind " + kind + " as " + as + " " + v, x.casts(0), bits);
        for (int to = 0; to < 11; to++) {
            boolean isBack = (bits >> to & 1) != 0;
            due("25: by kind " + kind + " as " + as + " " + v + " from " + to, x.loses(0, to), isBack ? -5 : 0);
        }
    }

    private static void casts() {
        int wholes = 1 << 1 | 1 << 2 | 1 << 3 | 1 << 4 | 1 << 5 | 1 << 6 | 1 << 7 | 1 << 8 | 1 << 9;
        comesBack(4, 4, 2, wholes);
        comesBack(4, 4, 1, wholes | 1);
        comesBack(4, 4, 0, wholes | 1);
        comesBack(0, 0, 1, wholes | 1);
        comesBack(4, 4, -1, wholes & ~(1 << 2));
        comesBack(1, 1, -1, wholes);
        comesBack(4, 4, 128, wholes & ~(1 << 1));
        comesBack(4, 4, 40000, wholes & ~(1 << 1 | 1 << 3));
        comesBack(2, 2, 40000, wholes & ~(1 << 1));
        comesBack(4, 4, 65536, wholes & ~(1 << 1 | 1 << 2 | 1 << 3));
        comesBack(4, 4, (1 << 24) + 1, 1 << 4 | 1 << 5 | 1 << 7 | 1 << 8 | 1 << 9);
        comesBack(4, 4, MAX, 1 << 4 | 1 << 5 | 1 << 6 | 1 << 7 | 1 << 8 | 1 << 9);
        comesBack(5, 5, 1L << 31, 1 << 5 | 1 << 6 | 1 << 7 | 1 << 9);
        comesBack(5, 5, (1L << 53) + 1, 1 << 5 | 1 << 9);
        comesBack(5, 5, Long.MAX_VALUE, 1 << 5 | 1 << 6 | 1 << 7 | 1 << 9);
        comesBack(7, 7, 1, 1 << 6 | 1 << 7 | 1 << 9);
        comesBack(7, 7, 8, wholes);
        comesBack(7, 7, 4, wholes | 1);
        comesBack(7, 5, (1L << 24) + 1, 1 << 4 | 1 << 5 | 1 << 7 | 1 << 8 | 1 << 9);
        comesBack(6, 6, -4, wholes & ~(1 << 2));
        comesBack(6, 6, Long.MAX_VALUE, 1 << 5 | 1 << 6 | 1 << 7 | 1 << 9);
        comesBack(8, 18, 0, 1 << 8 | 1 << 9 | 1 << 10);
        comesBack(8, 14, -1, wholes & ~(1 << 2));
        comesBack(9, 19, 30, 1 << 9 | 1 << 10);
        comesBack(9, 15, 1L << 40, 1 << 5 | 1 << 6 | 1 << 7 | 1 << 9);
        comesBack(9, 12, 65535, wholes);
        comesBack(10, 19, 1, 1 << 9 | 1 << 10);
        comesBack(10, 18, 1, 1 << 8 | 1 << 9 | 1 << 10);
    }

    private static void loses() {
        ColumnCasts x = Checks.table(5, "o(i1,l2,_,'a,d3)", "i(1,2,3,300,5)");
        due("25: the first row", x.loses(1, 1), 3);
        due("25: none", x.loses(1, 3), -5);
        due("25: nothing can't be a box", x.loses(0, 5), 2);
        due("25: a word can't be boxed", x.loses(0, 8), 3);
        due("25: a box is no note", x.loses(0, 10), 0);
        due("25: of any kind all are", x.loses(0, 9), -5);
        due("26: of any kind", x.casts(0), 1 << 9);
        due("26: of several", x.casts(1), 0b1111111100);
        due("25: bad 11", x.loses(0, 11), ColumnCasts.BAD);
        due("25: bad -1", x.loses(0, -1), ColumnCasts.BAD);
        due("25: not there ahead of bad", x.loses(2, 11), ColumnCasts.NOTHING);
        due("26: not there", x.casts(2), ColumnCasts.NOTHING);
        due("25: no number", x.loses(12, 0), ColumnCasts.NONE);
        due("26: no number", x.casts(-1), ColumnCasts.NONE);
        x.drop(1);
        due("25: gone ahead of bad", x.loses(1, 11), ColumnCasts.OTHER);
        due("26: gone", x.casts(1), ColumnCasts.OTHER);
        Checks.due("25: asking changes nothing", Checks.spelled(x, 0), "o(i1,l2,_,'a,d3)");
        x.size(0);
        due("26: no rows", x.casts(0), 2047);
        due("25: no rows", x.loses(0, 0), -5);
        Checks.due("25: refused", Checks.refused(x), "0 2 2");
    }

    private static void castOnce(String text, int rows, int kind, int answer, String then) {
        ColumnCasts x = Checks.table(rows, text);
        due("27: cast of " + text + " to " + kind, x.cast(0, kind), answer);
        Checks.due("27: " + text + " cast to " + kind, Checks.spelled(x, 0), then);
    }

    private static void cast() {
        castOnce("i(1,-2,300)", 3, 5, 4, "l(1,-2,300)");
        castOnce("i(1,-2,300)", 3, 1, -1002, "i(1,-2,300)");
        castOnce("i(1,-2,300)", 3, 0, -1001, "i(1,-2,300)");
        castOnce("i(1,-2,300)", 3, 2, -1001, "i(1,-2,300)");
        castOnce("i(1,-2,300)", 3, 7, 4, "d(4,-8,1200)");
        castOnce("i(1,-2,300)", 3, 9, 4, "o(i1,i-2,i300)");
        castOnce("i(1,-2,300)", 3, 8, 4, "w(1,-2,300)");
        castOnce("i(1,-2,300)", 3, 10, -1000, "i(1,-2,300)");
        castOnce("i(1,0,1)", 3, 0, 4, "z(1,0,1)");
        castOnce("z(1,0,1)", 3, 6, 0, "f(4,0,4)");
        castOnce("b(-1,5)", 2, 2, 1, "c(65535,5)");
        castOnce("c(65535,97)", 2, 3, 2, "s(-1,97)");
        castOnce("d(4,6)", 2, 4, -1001, "d(4,6)");
        castOnce("d(-400,8)", 2, 1, 7, "b(-100,2)");
        castOnce("d(-400,8)", 2, 3, 7, "s(-100,2)");
        castOnce("f(999999,8)", 2, 2, -1000, "f(999999,8)");
        castOnce("f(200000,8)", 2, 2, 6, "c(50000,2)");
        castOnce("f(200000,8)", 2, 8, 6, "w(50000,2)");
    }

    private static void castOfAny() {
        castOnce("o(i5,d20,c9)", 3, 1, 9, "b(5,5,9)");
        castOnce("o(i5,d20,c9)", 3, 8, 9, "w(5,5,9)");
        castOnce("o(i5,d20,_)", 3, 8, 9, "w(5,5,_)");
        castOnce("o(i5,d20,_)", 3, 4, -1002, "o(i5,d20,_)");
        castOnce("o('a,_,'zz)", 3, 10, 9, "n(a,_,zz)");
        castOnce("o('a,_,'zz)", 3, 8, -1000, "o('a,_,'zz)");
        castOnce("n(a,_,zz)", 3, 9, 10, "o('a,_,'zz)");
        castOnce("n(a,_,zz)", 3, 10, 10, "n(a,_,zz)");
        castOnce("n(_,_)", 2, 8, 10, "w(_,_)");
        castOnce("w(_,7)", 2, 9, 8, "o(_,i7)");
        castOnce("w(5,7)", 2, 6, 8, "f(20,28)");
        castOnce("w(5,_)", 2, 10, -1000, "w(5,_)");
        castOnce("o(z1,d4,f4)", 3, 0, 9, "z(1,1,1)");
    }

    private static void castRefused() {
        ColumnCasts x = Checks.withGone(1);
        due("27: bad 11", x.cast(1, 11), ColumnCasts.BAD);
        due("27: bad -1", x.cast(1, -1), ColumnCasts.BAD);
        due("27: gone ahead of bad", x.cast(0, 11), ColumnCasts.OTHER);
        due("27: not there ahead of bad", x.cast(2, 11), ColumnCasts.NOTHING);
        due("27: no number ahead of bad", x.cast(MIN, 11), ColumnCasts.NONE);
        due("27: what is lost is not refused", x.cast(1, 10), -1000);
        Checks.due("27: refused", Checks.refused(x), "0 1 1");
        due("27: to its own kind", x.cast(1, 4), 4);
        x.size(0);
        due("27: no rows", x.cast(1, 10), 4);
        x.size(2);
        Checks.due("27: new cells of the new kind", Checks.spelled(x, 1), "n(_,_)");
        due("27: nothing boxed", x.cast(1, 8), 10);
        x.size(3);
        due("27: written by the new kind", x.write(1, 0, 14, 4), 1);
    }

    public static void main(String[] args) {
        pair();
        pairRefused();
        group();
        groupOfKept();
        groupOfNumbers();
        sum();
        sumOfKept();
        sumRefused();
        sumOver();
        sumInOrder();
        casts();
        loses();
        cast();
        castOfAny();
        castRefused();
        Checks.end();
    }
}
