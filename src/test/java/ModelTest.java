/** Long runs of mixed calls on fresh objects, each answer compared with the model's. */
public final class ModelTest {
    // Calls that are left behind the mixed ones are for a look at all that came of them.
    private static final int RUNS = 1500, CALLS = 512, MIXED_CALLS = 440;
    private static final int[] ODD_INTS = {
        Integer.MIN_VALUE, Integer.MAX_VALUE, -2, -3, -1000, 100, 1000, 11, 12, 13, 40, 41, 127, 128};
    private static final long[] ODD_LONGS = {
        Long.MIN_VALUE, Long.MIN_VALUE + 1, Long.MAX_VALUE, Long.MAX_VALUE - 1, 1L << 53, (1L << 53) + 1, (1L << 24) + 1,
        Integer.MIN_VALUE, Integer.MAX_VALUE, 1L << 31, 32767, 32768, -32768, -32769, 65535, 65536, 127, 128, -128, -129,
        (1L << 62) + 1, Long.MAX_VALUE / 2, 702, 703, 0, 4L * Integer.MAX_VALUE, 4L * 65535, 4 * 127, 5};

    private final ColumnCasts x = new ColumnCasts();
    private final Model m = new Model();
    private final int run;
    private long state;
    private int call;

    private ModelTest(int run) {
        this.run = run;
        this.state = run * 7919L + 17;
    }

    private int below(int n) {
        state = state * 6364136223846793005L + 1442695040888963407L;
        return (int) ((state >>> 33) % n);
    }

    /** Mostly 0 .. n less 1, else a number that is odd or just outside. */
    private int about(int n) {
        int p = below(40);
        if (p == 0) {
            return ODD_INTS[below(ODD_INTS.length)];
        }
        return p == 1 ? -1 : p == 2 ? n : n > 0 ? below(n) : 0;
    }

    private int column() {
        return about(m.count(1));
    }

    private int row() {
        return about(m.count(0));
    }

    private long value() {
        int p = below(12);
        if (p == 0) {
            return ODD_LONGS[below(ODD_LONGS.length)];
        }
        if (p == 1) {
            return ((long) below(1 << 30) << 34) ^ below(1 << 30);
        }
        if (p < 4) {
            return 1 + below(702);
        }
        return below(9) - 3;
    }

    private void due(String what, long got, long want) {
        if (got != want) {
            Checks.due("run " + run + ", call " + call + ": " + what, got, want);
        }
        call++;
    }

    private boolean goesOn() {
        return call < MIXED_CALLS && !Checks.isWrong();
    }

    private void feed(String text) {
        for (int i = 0; i < text.length() && goesOn(); i++) {
            int sign = text.charAt(i);
            due("feed " + sign, x.feed(sign), m.feed(sign));
        }
    }

    private String number() {
        StringBuilder text = new StringBuilder(below(4) == 0 ? "-" : "");
        for (int n = below(8) == 0 ? 1 + below(7) : 1 + below(2); n > 0; n--) {
            text.append((char) ('0' + below(10)));
        }
        return text.toString();
    }

    private String letters() {
        String text = "" + (char) ('a' + below(3));
        return below(2) == 0 ? text : text + (char) ('a' + below(26));
    }

    private String item(int kind) {
        if (kind >= 8 && below(3) == 0) {
            return "_";
        }
        if (kind == 10) {
            return letters();
        }
        if (kind == 9) {
            return below(3) == 0 ? "'" + letters() : "zbcsilfd".charAt(below(8)) + number();
        }
        return number();
    }

    private void read() {
        int kind = below(11);
        StringBuilder text = new StringBuilder().append("zbcsilfdwon".charAt(kind)).append('(');
        int items = below(8) == 0 ? m.count(0) + 1 : below(Math.min(m.count(0), 6) + 1);
        for (int i = 0; i < items; i++) {
            text.append(i == 0 ? "" : ",").append(item(kind));
        }
        text.append(')');
        if (below(4) == 0) {
            int place = below(text.length());
            String signs = "zbcsilfdwon(),_-'019ax \t";
            char sign = signs.charAt(below(signs.length()));
            switch (below(4)) {
                case 0: text.setLength(place); break;
                case 1: text.setCharAt(place, sign); break;
                case 2: text.insert(place, sign); break;
                default: text.append(sign); break;
            }
        }
        feed(text.toString());
        due("read of " + text, x.read(), m.read());
    }

    private void spell(int c) {
        int kind = m.kindOf(c);
        due("kindOf " + c, x.kindOf(c), kind);
        if (kind >= 0 && below(4) == 0) {
            String spelling = m.spelling(c);
            for (int i = -1; i <= spelling.length() && goesOn(); i += 1 + below(3)) {
                due("spelled", x.spelled(c, i), m.spelled(c, i));
            }
        } else {
            int i = below(60) - 1;
            due("spelled", x.spelled(c, i), m.spelled(c, i));
        }
    }

    private void callOfTable() {
        int c = column();
        int d = column();
        int r = row();
        int q = row();
        switch (below(14)) {
            case 0:
                int n = below(4) == 0 ? about(41) : below(9);
                due("size " + n, x.size(n), m.size(n));
                break;
            case 1:
                int kind = about(11);
                due("column " + kind, x.column(kind), m.column(kind));
                break;
            case 2:
                if (below(4) == 0) {
                    due("drop " + c, x.drop(c), m.drop(c));
                } else {
                    due("kindOf " + c, x.kindOf(c), m.kindOf(c));
                }
                break;
            case 3: case 4:
                int as = below(2) == 0 ? 8 : about(9);
                due("ask " + c + " " + r + " " + as, x.ask(c, r, as), m.ask(c, r, as));
                due("got", x.got(), m.got());
                break;
            case 9:
                int length = below(3) == 0 ? row() : below(3);
                due("bring " + c + " " + r + " " + d + " " + q + " " + length, x.bring(c, r, d, q, length),
                    m.bring(c, r, d, q, length));
                break;
            case 10:
                due("swap " + r + " " + q, x.swap(r, q), m.swap(r, q));
                break;
            case 11:
                due("differs " + r + " " + q, x.differs(r, q), m.differs(r, q));
                break;
            case 12: case 13:
                int what = about(3);
                due("of " + c + " " + what, x.of(c, what), m.of(c, what));
                break;
            default:
                writeOne(c, r);
                break;
        }
    }

    private void writeOne(int c, int r) {
        int kind = m.count(1) > 0 && below(3) > 0 ? below(20) : about(20);
        long v = value();
        due("write " + c + " " + r + " " + kind + " " + v, x.write(c, r, kind, v), m.write(c, r, kind, v));
    }

    private void callOfViews() {
        int view = about(2);
        int c = below(12) == 0 ? -1 : column();
        int test = about(6);
        int kind = below(4) == 0 ? 10 : about(8);
        long v = value();
        switch (below(12)) {
            case 0:
                due("view " + view, x.view(view), m.view(view));
                break;
            case 1: case 2:
                int i = row();
                due("viewed " + view + " " + i, x.viewed(view, i), m.viewed(view, i));
                break;
            case 3:
                due("keep " + view + " " + c + " " + test + " " + kind + " " + v, x.keep(view, c, test, kind, v),
                    m.keep(view, c, test, kind, v));
                break;
            case 4: case 5:
                boolean isTurned = below(2) == 0;
                due("key " + c + " " + isTurned, x.key(c, isTurned), m.key(c, isTurned));
                break;
            case 6: case 7:
                due("sort " + view, x.sort(view), m.sort(view));
                break;
            case 8: case 9:
                due("filter " + c + " " + test + " " + kind + " " + v, x.filter(c, test, kind, v), m.filter(c, test, kind, v));
                break;
            case 10:
                orders(view);
                break;
            default:
                if (below(4) == 0) {
                    due("run " + view, x.run(view), m.run(view));
                } else {
                    due("looked " + view, x.looked(view), m.looked(view));
                }
                break;
        }
    }

    /** The model tries all orders one by one, so six filters are asked for rarely. */
    private void orders(int view) {
        if (m.count(3) < 6 || below(6) == 0) {
            int k = below(3) == 0 ? -1 : about(m.count(3));
            due("order " + view + " " + k, x.order(view, k), m.order(view, k));
        }
    }

    private void callOfGroups() {
        int view = about(2);
        int c = column();
        int d = column();
        int i = below(3) == 0 ? -1 : about(5);
        switch (below(8)) {
            case 0: case 1:
                due("pair " + c + " " + d + " " + i, x.pair(c, d, i), m.pair(c, d, i));
                break;
            case 2: case 3:
                int what = about(2);
                due("group " + view + " " + c + " " + i + " " + what, x.group(view, c, i, what), m.group(view, c, i, what));
                break;
            case 4: case 5:
                due("sum " + view + " " + c + " " + i + " " + d, x.sum(view, c, i, d), m.sum(view, c, i, d));
                due("got", x.got(), m.got());
                break;
            case 6:
                int from = about(11);
                due("loses " + c + " " + from, x.loses(c, from), m.loses(c, from));
                due("casts " + c, x.casts(c), m.casts(c));
                break;
            default:
                int kind = about(11);
                due("cast " + c + " " + kind, x.cast(c, kind), m.cast(c, kind));
                break;
        }
    }

    private void callOfTexts() {
        switch (below(12)) {
            case 0: case 1:
                read();
                break;
            case 2:
                int sign = about(128);
                due("feed " + sign, x.feed(sign), m.feed(sign));
                break;
            case 3:
                if (below(3) == 0) {
                    due("image", x.image(), m.image());
                }
                break;
            case 4:
                if (below(2) == 0) {
                    due("undo", x.undo(), m.undo());
                }
                break;
            case 5: case 6: case 7: case 8:
                int what = about(8);
                due("count " + what, x.count(what), m.count(what));
                break;
            default:
                spell(column());
                break;
        }
    }

    private void go() {
        due("undo", x.undo(), m.undo());
        int rows = below(4) == 0 ? 40 : below(12);
        due("size " + rows, x.size(rows), m.size(rows));
        for (int i = 0; i < 3; i++) {
            read();
        }
        while (goesOn()) {
            switch (below(4)) {
                case 0: callOfTable(); break;
                case 1: callOfViews(); break;
                case 2: callOfGroups(); break;
                default: callOfTexts(); break;
            }
        }
        lookAtAll();
    }

    private void lookAtAll() {
        for (int what = -1; what < 9; what++) {
            due("count " + what, x.count(what), m.count(what));
        }
        for (int c = 0; c < 12; c++) {
            int kind = m.kindOf(c);
            due("kindOf " + c, x.kindOf(c), kind);
            int length = kind < 0 ? 0 : m.spelling(c).length();
            for (int i = 0; i < length && call + 12 < CALLS; i++) {
                due("spelled " + c + " " + i, x.spelled(c, i), m.spelled(c, i));
            }
        }
    }

    public static void main(String[] args) {
        int first = args.length > 0 ? Integer.parseInt(args[0]) : 0;
        for (int run = first; run < first + RUNS && !Checks.isWrong(); run++) {
            new ModelTest(run).go();
        }
        Checks.end();
    }
}
