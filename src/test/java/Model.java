import java.math.BigInteger;
import java.util.ArrayList;
import java.util.Arrays;
import java.util.LinkedHashMap;
import java.util.List;
import java.util.Map;
import java.util.regex.Matcher;
import java.util.regex.Pattern;

/**
 * The document once more, in the plainest Java and with the whole library:
 * a cell is null, a Boolean, a Byte .. a Double or a String. What the class
 * answers is compared with it.
 */
final class Model {
    static final int NONE = -1, BAD = -2, STATE = -3, FULL = -4, OVER = -15, BEYOND = -21, OTHER = -22, NOTHING = -23;
    private static final String WIDENINGS =
        "0>0 1>1 1>3 1>4 1>5 1>6 1>7 2>2 2>4 2>5 2>6 2>7 3>3 3>4 3>5 3>6 3>7 4>4 4>5 4>6 4>7 5>5 5>6 5>7 6>6 6>7 7>7";
    private static final String NUMBER = "-?[0-9]{1,6}";
    private static final String LETTERS = "[a-z]{1,2}";

    /** What an image keeps. */
    private static final class State {
        int rows;
        List<Integer> kinds = new ArrayList<>();
        List<Boolean> gone = new ArrayList<>();
        List<List<Object>> cells = new ArrayList<>();
        List<List<Integer>> views = new ArrayList<>(List.of(new ArrayList<>(), new ArrayList<>()));
        List<int[]> keys = new ArrayList<>();
        List<Object[]> filters = new ArrayList<>();

        State copy() {
            State s = new State();
            s.rows = rows;
            s.kinds.addAll(kinds);
            s.gone.addAll(gone);
            for (List<Object> column : cells) {
                s.cells.add(new ArrayList<>(column));
            }
            s.views = new ArrayList<>(List.of(new ArrayList<>(views.get(0)), new ArrayList<>(views.get(1))));
            s.keys.addAll(keys);
            s.filters.addAll(filters);
            return s;
        }
    }

    private State s = new State();
    private State image;
    private long got;
    private final int[] refusals = new int[3];
    private String text = "";

    private int refuse(int answer) {
        if (answer <= BEYOND && answer >= NOTHING) {
            refusals[BEYOND - answer]++;
        }
        return answer;
    }

    private int refusal(int c) {
        if (c < 0 || c > 11) {
            return NONE;
        }
        if (c >= s.kinds.size()) {
            return refuse(NOTHING);
        }
        return s.gone.get(c) ? refuse(OTHER) : 0;
    }

    private boolean isRow(int r) {
        return r >= 0 && r < s.rows;
    }

    private static boolean isView(int view) {
        return view == 0 || view == 1;
    }

    private static Object fresh(int kind) {
        return kind <= 7 ? made(kind, 0) : null;
    }

    static Object made(int kind, long v) {
        switch (kind) {
            case 0: return v % 2 != 0;
            case 1: return (byte) v;
            case 2: return (char) v;
            case 3: return (short) v;
            case 4: return (int) v;
            case 5: return v;
            case 6: return (float) v / 4;
            case 7: return (double) v / 4;
            default:
                if (v <= 26) {
                    return String.valueOf((char) ('a' + v - 1));
                }
                return "" + (char) ('a' + (v - 27) / 26) + (char) ('a' + (v - 27) % 26);
        }
    }

    static int kindOfBox(Object o) {
        return List.of(Boolean.class, Byte.class, Character.class, Short.class, Integer.class, Long.class, Float.class,
            Double.class).indexOf(o.getClass());
    }

    private static boolean isBox(Object o) {
        return o != null && !(o instanceof String);
    }

    private static boolean isNumber(Object o) {
        return isBox(o) && !(o instanceof Boolean);
    }

    private static boolean isReal(Object o) {
        return o instanceof Float || o instanceof Double;
    }

    static long number(Object o) {
        if (o instanceof Boolean) {
            return (Boolean) o ? 1 : 0;
        }
        if (o instanceof Character) {
            return (Character) o;
        }
        if (o instanceof Float) {
            return Float.floatToIntBits((Float) o);
        }
        if (o instanceof Double) {
            return Double.doubleToLongBits((Double) o);
        }
        if (o instanceof String) {
            for (int v = 1; v <= 702; v++) {
                if (made(10, v).equals(o)) {
                    return v;
                }
            }
        }
        return o == null ? 0 : ((Number) o).longValue();
    }

    private static double worth(Object o) {
        return o instanceof Character ? (double) (Character) o : ((Number) o).doubleValue();
    }

    static Object turned(Object o, int kind) {
        if (o instanceof Double) {
            double x = (Double) o;
            switch (kind) {
                case 0: return x != 0;
                case 1: return (byte) x;
                case 2: return (char) x;
                case 3: return (short) x;
                case 4: return (int) x;
                case 5: return (long) x;
                case 6: return (float) x;
                default: return x;
            }
        }
        if (o instanceof Float) {
            float x = (Float) o;
            switch (kind) {
                case 0: return x != 0;
                case 1: return (byte) x;
                case 2: return (char) x;
                case 3: return (short) x;
                case 4: return (int) x;
                case 5: return (long) x;
                case 6: return x;
                default: return (double) x;
            }
        }
        long x = number(o);
        switch (kind) {
            case 0: return x != 0;
            case 1: return (byte) x;
            case 2: return (char) x;
            case 3: return (short) x;
            case 4: return (int) x;
            case 5: return x;
            case 6: return (float) x;
            default: return (double) x;
        }
    }

    private static boolean same(Object a, Object b) {
        return a == null ? b == null : a.equals(b);
    }

    private static int sort(Object o) {
        return o == null ? 3 : o instanceof String ? 2 : o instanceof Boolean ? 0 : 1;
    }

    static int rank(Object a, Object b) {
        if (sort(a) != sort(b)) {
            return Integer.compare(sort(a), sort(b));
        }
        switch (sort(a)) {
            case 0: return Boolean.compare((Boolean) a, (Boolean) b);
            case 1:
                if (worth(a) != worth(b)) {
                    return Double.compare(worth(a), worth(b));
                }
                if (kindOfBox(a) != kindOfBox(b)) {
                    return Integer.compare(kindOfBox(a), kindOfBox(b));
                }
                return isReal(a) ? 0 : Long.compare(number(a), number(b));
            case 2: return ((String) a).compareTo((String) b);
            default: return 0;
        }
    }

    /** Null: neither is less. */
    private static Integer compared(Object a, Object b) {
        if (a == null || b == null || sort(a) != sort(b)) {
            return null;
        }
        if (isNumber(a)) {
            boolean isByDouble = isReal(a) || isReal(b);
            return isByDouble ? Double.compare(worth(a), worth(b)) : Long.compare(number(a), number(b));
        }
        return rank(a, b);
    }

    private static boolean stands(Object cell, int test, Object told) {
        Integer order = compared(cell, told);
        switch (test) {
            case 0: return order != null && order < 0;
            case 1: return order != null && order == 0;
            case 2: return order != null && order > 0;
            case 3: return cell == null;
            case 4: return cell != null;
            default: return same(cell, told);
        }
    }

    int size(int n) {
        if (n < 0 || n > 40) {
            return BAD;
        }
        int had = s.rows;
        for (int c = 0; c < s.cells.size(); c++) {
            List<Object> column = s.cells.get(c);
            while (column.size() > n) {
                column.remove(column.size() - 1);
            }
            while (column.size() < n) {
                column.add(fresh(s.kinds.get(c)));
            }
        }
        for (List<Integer> view : s.views) {
            view.removeIf(r -> r >= n);
            for (int r = had; r < n; r++) {
                view.add(r);
            }
        }
        s.rows = n;
        return had;
    }

    int column(int kind) {
        if (kind < 0 || kind > 10) {
            return BAD;
        }
        if (s.kinds.size() == 12) {
            return FULL;
        }
        List<Object> column = new ArrayList<>();
        for (int r = 0; r < s.rows; r++) {
            column.add(fresh(kind));
        }
        return add(kind, column);
    }

    private int add(int kind, List<Object> column) {
        s.kinds.add(kind);
        s.gone.add(false);
        s.cells.add(column);
        return s.kinds.size() - 1;
    }

    int drop(int c) {
        int no = refusal(c);
        if (no != 0) {
            return no;
        }
        s.gone.set(c, true);
        return s.kinds.get(c);
    }

    int kindOf(int c) {
        int no = refusal(c);
        return no != 0 ? no : s.kinds.get(c);
    }

    int ask(int c, int r, int as) {
        int no = refusal(c);
        if (no != 0) {
            return no;
        }
        if (as < 0 || as > 8) {
            return BAD;
        }
        int kind = s.kinds.get(c);
        if (as == 8) {
            if (!isRow(r)) {
                return refuse(BEYOND);
            }
            Object o = s.cells.get(c).get(r);
            got = number(o);
            return o == null ? 99 : o instanceof String ? 110 : 100 + kindOfBox(o);
        }
        if (kind >= 8) {
            return refuse(OTHER);
        }
        if (!isRow(r)) {
            return refuse(BEYOND);
        }
        if (!WIDENINGS.contains(kind + ">" + as)) {
            return refuse(OTHER);
        }
        got = number(turned(s.cells.get(c).get(r), as));
        return 1;
    }

    long got() {
        return got;
    }

    int write(int c, int r, int as, long v) {
        int no = refusal(c);
        if (no != 0) {
            return no;
        }
        if (as < 0 || as == 8 || as == 9 || as > 19 || as == 19 && (v < 1 || v > 702)) {
            return BAD;
        }
        int kind = s.kinds.get(c);
        if (as <= 7) {
            if (kind >= 8) {
                return refuse(OTHER);
            }
            if (!isRow(r)) {
                return refuse(BEYOND);
            }
            if (!WIDENINGS.contains(as + ">" + kind)) {
                return refuse(OTHER);
            }
            s.cells.get(c).set(r, turned(made(as, v), kind));
            return 1;
        }
        if (as <= 17) {
            if (!isRow(r)) {
                return refuse(BEYOND);
            }
            if (kind <= 7 && !WIDENINGS.contains((as - 10) + ">" + kind) || kind == 8 && as != 14 || kind == 10) {
                return refuse(OTHER);
            }
            Object box = made(as - 10, v);
            s.cells.get(c).set(r, kind <= 7 ? turned(box, kind) : box);
            return 1;
        }
        if (kind <= 7) {
            return refuse(OTHER);
        }
        if (!isRow(r)) {
            return refuse(BEYOND);
        }
        if (as == 19 && kind == 8) {
            return refuse(OTHER);
        }
        s.cells.get(c).set(r, as == 18 ? null : made(10, v));
        return 1;
    }

    int bring(int c, int i, int d, int j, int n) {
        int no = refusal(c);
        no = no != 0 ? no : refusal(d);
        if (no != 0) {
            return no;
        }
        if (!s.kinds.get(c).equals(s.kinds.get(d))) {
            return refuse(OTHER);
        }
        if (n < 0 || i < 0 || j < 0 || (long) i + n > s.rows || (long) j + n > s.rows) {
            return refuse(BEYOND);
        }
        List<Object> before = new ArrayList<>(s.cells.get(c));
        for (int k = 0; k < n; k++) {
            s.cells.get(d).set(j + k, before.get(i + k));
        }
        return n;
    }

    int swap(int r, int q) {
        if (!isRow(r) || !isRow(q)) {
            return refuse(BEYOND);
        }
        int there = 0;
        for (int c = 0; c < s.cells.size(); c++) {
            if (!s.gone.get(c)) {
                java.util.Collections.swap(s.cells.get(c), r, q);
                there++;
            }
        }
        return there;
    }

    int differs(int r, int q) {
        if (!isRow(r) || !isRow(q)) {
            return refuse(BEYOND);
        }
        for (int c = 0; c < s.cells.size(); c++) {
            if (!s.gone.get(c) && !same(s.cells.get(c).get(r), s.cells.get(c).get(q))) {
                return c;
            }
        }
        return -5;
    }

    int of(int c, int what) {
        int no = refusal(c);
        if (no != 0) {
            return no;
        }
        List<Object> column = s.cells.get(c);
        switch (what) {
            case 0: return (int) column.stream().filter(o -> o == null).count();
            case 1: return (int) column.stream().distinct().count();
            case 2:
                int n = 0;
                for (int r = 1; r < s.rows; r++) {
                    n += rank(column.get(r), column.get(r - 1)) < 0 ? 0 : 1;
                }
                return n;
            default: return BAD;
        }
    }

    int view(int view) {
        if (!isView(view)) {
            return NONE;
        }
        s.views.get(view).clear();
        for (int r = 0; r < s.rows; r++) {
            s.views.get(view).add(r);
        }
        return s.rows;
    }

    int viewed(int view, int i) {
        if (!isView(view) || i < -1 || i >= s.views.get(view).size()) {
            return NONE;
        }
        return i == -1 ? s.views.get(view).size() : s.views.get(view).get(i);
    }

    private static boolean isTest(int test, int kind, long v) {
        return test >= 0 && test <= 5 && (kind >= 0 && kind <= 7 || kind == 10 && v >= 1 && v <= 702);
    }

    private boolean passes(Object[] filter, int row) {
        int c = (Integer) filter[0];
        return !s.gone.get(c) && stands(s.cells.get(c).get(row), (Integer) filter[1], filter[2]);
    }

    int keep(int view, int c, int test, int kind, long v) {
        if (!isView(view)) {
            return NONE;
        }
        int no = refusal(c);
        if (no != 0) {
            return no;
        }
        if (!isTest(test, kind, v)) {
            return BAD;
        }
        Object[] filter = {c, test, made(kind, v)};
        s.views.get(view).removeIf(r -> !passes(filter, r));
        return s.views.get(view).size();
    }

    int key(int c, boolean isTurned) {
        if (c == -1) {
            s.keys.clear();
            return 0;
        }
        int no = refusal(c);
        if (no != 0) {
            return no;
        }
        if (s.keys.size() == 4) {
            return FULL;
        }
        s.keys.add(new int[] {c, isTurned ? -1 : 1});
        return s.keys.size();
    }

    int sort(int view) {
        if (!isView(view)) {
            return NONE;
        }
        if (s.keys.isEmpty()) {
            return STATE;
        }
        List<Integer> before = new ArrayList<>(s.views.get(view));
        s.views.get(view).sort((a, b) -> {
            for (int[] key : s.keys) {
                List<Object> column = s.cells.get(key[0]);
                int rank = s.gone.get(key[0]) ? 0 : rank(column.get(a), column.get(b)) * key[1];
                if (rank != 0) {
                    return rank;
                }
            }
            return 0;
        });
        int moved = 0;
        for (int i = 0; i < before.size(); i++) {
            moved += before.get(i).equals(s.views.get(view).get(i)) ? 0 : 1;
        }
        return moved;
    }

    int filter(int c, int test, int kind, long v) {
        if (c == -1) {
            s.filters.clear();
            return 0;
        }
        int no = refusal(c);
        if (no != 0) {
            return no;
        }
        if (!isTest(test, kind, v)) {
            return BAD;
        }
        if (s.filters.size() == 6) {
            return FULL;
        }
        s.filters.add(new Object[] {c, test, made(kind, v)});
        return s.filters.size();
    }

    private int looks(List<Integer> view, List<Integer> order) {
        List<Integer> left = new ArrayList<>(view);
        int looks = 0;
        for (int f : order) {
            looks += left.size();
            left.removeIf(r -> !passes(s.filters.get(f), r));
        }
        return looks;
    }

    /** All orders, the lesser first filter ahead, then the second, and so on. */
    private static void orders(int n, List<Integer> begun, List<List<Integer>> all) {
        if (begun.size() == n) {
            all.add(new ArrayList<>(begun));
        }
        for (int f = 0; f < n; f++) {
            if (!begun.contains(f)) {
                begun.add(f);
                orders(n, begun, all);
                begun.remove(begun.size() - 1);
            }
        }
    }

    int order(int view, int k) {
        if (!isView(view) || k < -1 || k >= s.filters.size()) {
            return NONE;
        }
        List<List<Integer>> all = new ArrayList<>();
        orders(s.filters.size(), new ArrayList<>(), all);
        List<Integer> best = null;
        int fewest = 0;
        for (List<Integer> order : all) {
            int looks = looks(s.views.get(view), order);
            if (best == null || looks < fewest) {
                best = order;
                fewest = looks;
            }
        }
        return k == -1 ? fewest : best.get(k);
    }

    int looked(int view) {
        if (!isView(view)) {
            return NONE;
        }
        List<Integer> order = new ArrayList<>();
        for (int f = 0; f < s.filters.size(); f++) {
            order.add(f);
        }
        return looks(s.views.get(view), order);
    }

    int run(int view) {
        if (!isView(view)) {
            return NONE;
        }
        for (Object[] filter : s.filters) {
            s.views.get(view).removeIf(r -> !passes(filter, r));
        }
        return s.views.get(view).size();
    }

    int pair(int c, int d, int i) {
        int no = refusal(c);
        no = no != 0 ? no : refusal(d);
        if (no != 0) {
            return no;
        }
        List<Integer> pairs = new ArrayList<>();
        for (int r : s.views.get(0)) {
            for (int q : s.views.get(1)) {
                if (stands(s.cells.get(c).get(r), 1, s.cells.get(d).get(q))) {
                    pairs.add(100 * r + q);
                }
            }
        }
        return i == -1 ? pairs.size() : i < 0 || i >= pairs.size() ? NONE : pairs.get(i);
    }

    private List<List<Integer>> groups(int view, int c) {
        Map<List<Object>, List<Integer>> groups = new LinkedHashMap<>();
        for (int r : s.views.get(view)) {
            List<Object> cell = Arrays.asList(s.cells.get(c).get(r));
            groups.computeIfAbsent(cell, k -> new ArrayList<>()).add(r);
        }
        return new ArrayList<>(groups.values());
    }

    int group(int view, int c, int i, int what) {
        if (!isView(view)) {
            return NONE;
        }
        int no = refusal(c);
        if (no != 0) {
            return no;
        }
        List<List<Integer>> groups = groups(view, c);
        if (i == -1) {
            return groups.size();
        }
        if (i < 0 || i >= groups.size()) {
            return NONE;
        }
        return what == 0 ? groups.get(i).get(0) : what == 1 ? groups.get(i).size() : BAD;
    }

    int sum(int view, int c, int i, int d) {
        if (!isView(view)) {
            return NONE;
        }
        int no = refusal(c);
        no = no != 0 ? no : refusal(d);
        if (no != 0) {
            return no;
        }
        List<List<Integer>> groups = groups(view, c);
        if (i < 0 || i >= groups.size()) {
            return NONE;
        }
        List<Object> summands = new ArrayList<>();
        for (int r : groups.get(i)) {
            if (isNumber(s.cells.get(d).get(r))) {
                summands.add(s.cells.get(d).get(r));
            }
        }
        if (summands.stream().anyMatch(Model::isReal)) {
            double total = 0;
            for (Object o : summands) {
                total += worth(o);
            }
            got = Double.doubleToLongBits(total);
            return 7;
        }
        BigInteger total = BigInteger.ZERO;
        for (Object o : summands) {
            total = total.add(BigInteger.valueOf(number(o)));
            if (total.bitLength() > 63) {
                return OVER;
            }
        }
        got = total.longValue();
        return 5;
    }

    private static boolean comesBack(Object o, int kind) {
        if (kind == 9) {
            return true;
        }
        if (!isBox(o)) {
            return kind == 10 || kind == 8 && o == null;
        }
        if (kind == 10) {
            return false;
        }
        Object back = turned(turned(o, kind == 8 ? 4 : kind), kindOfBox(o));
        return number(back) == number(o);
    }

    private int lost(int c, int kind) {
        for (int r = 0; r < s.rows; r++) {
            if (!comesBack(s.cells.get(c).get(r), kind)) {
                return r;
            }
        }
        return -5;
    }

    int loses(int c, int kind) {
        int no = refusal(c);
        if (no != 0) {
            return no;
        }
        return kind < 0 || kind > 10 ? BAD : lost(c, kind);
    }

    int casts(int c) {
        int no = refusal(c);
        if (no != 0) {
            return no;
        }
        int bits = 0;
        for (int kind = 0; kind <= 10; kind++) {
            bits += lost(c, kind) == -5 ? 1 << kind : 0;
        }
        return bits;
    }

    int cast(int c, int kind) {
        int no = refusal(c);
        if (no != 0) {
            return no;
        }
        if (kind < 0 || kind > 10) {
            return BAD;
        }
        int lost = lost(c, kind);
        if (lost >= 0) {
            return -1000 - lost;
        }
        if (kind != 9) {
            s.cells.get(c).replaceAll(o -> isBox(o) ? turned(o, kind == 8 ? 4 : kind) : o);
        }
        return s.kinds.set(c, kind);
    }

    int feed(int sign) {
        if (sign < 0 || sign > 127) {
            return BAD;
        }
        if (text.length() == 100) {
            return FULL;
        }
        text += (char) sign;
        return text.length();
    }

    private Pattern grammar(char letter) {
        String item;
        switch (letter) {
            case 'w': item = "(?:_|" + NUMBER + ")"; break;
            case 'o': item = "(?:_|[zbcsilfd]" + NUMBER + "|'" + LETTERS + ")"; break;
            case 'n': item = "(?:_|" + LETTERS + ")"; break;
            default: item = "(?:" + NUMBER + ")"; break;
        }
        String items = s.rows == 0 ? "" : "(?:" + item + "(?:," + item + "){0," + (s.rows - 1) + "})?";
        return Pattern.compile(letter + "\\(" + items + "\\)");
    }

    /** The longest beginning of the text with which some text of a column begins. */
    private int fault(Pattern grammar) {
        for (int n = 1; n <= text.length(); n++) {
            Matcher matcher = grammar.matcher(text.substring(0, n));
            if (!matcher.matches() && !matcher.hitEnd()) {
                return n - 1;
            }
        }
        return text.length();
    }

    int read() {
        int kind = text.isEmpty() ? -1 : "zbcsilfdwon".indexOf(text.charAt(0));
        if (kind < 0) {
            text = "";
            return -10;
        }
        Pattern grammar = grammar(text.charAt(0));
        if (!grammar.matcher(text).matches()) {
            int fault = fault(grammar);
            text = "";
            return -10 - fault;
        }
        String items = text.substring(2, text.length() - 1);
        text = "";
        if (s.kinds.size() == 12) {
            return FULL;
        }
        List<Object> column = new ArrayList<>();
        for (String item : items.isEmpty() ? new String[0] : items.split(",")) {
            column.add(item(kind, item));
        }
        while (column.size() < s.rows) {
            column.add(fresh(kind));
        }
        return add(kind, column);
    }

    private static Object item(int kind, String item) {
        if (item.equals("_")) {
            return null;
        }
        if (kind == 10) {
            return item;
        }
        if (kind == 9 && item.startsWith("'")) {
            return item.substring(1);
        }
        if (kind == 9) {
            return made("zbcsilfd".indexOf(item.charAt(0)), Long.parseLong(item.substring(1)));
        }
        return made(kind == 8 ? 4 : kind, Long.parseLong(item));
    }

    String spelling(int c) {
        int kind = s.kinds.get(c);
        List<String> items = new ArrayList<>();
        for (Object o : s.cells.get(c)) {
            if (o == null) {
                items.add("_");
            } else if (o instanceof String) {
                items.add(kind == 9 ? "'" + o : (String) o);
            } else {
                long n = o instanceof Float ? (long) ((Float) o * 4) : o instanceof Double ? (long) ((Double) o * 4) : number(o);
                items.add((kind == 9 ? "zbcsilfd".substring(kindOfBox(o), kindOfBox(o) + 1) : "") + n);
            }
        }
        return "zbcsilfdwon".charAt(kind) + "(" + String.join(",", items) + ")";
    }

    int spelled(int c, int i) {
        int no = refusal(c);
        if (no != 0) {
            return no;
        }
        String spelling = spelling(c);
        return i < 0 || i >= spelling.length() ? -5 : spelling.charAt(i);
    }

    int image() {
        image = s.copy();
        return s.rows;
    }

    int undo() {
        if (image == null) {
            return STATE;
        }
        s = image.copy();
        return s.rows;
    }

    int count(int what) {
        switch (what) {
            case 0: return s.rows;
            case 1: return s.kinds.size();
            case 2: return s.keys.size();
            case 3: return s.filters.size();
            case 4: case 5: case 6: return refusals[what - 4];
            case 7: return text.length();
            default: return BAD;
        }
    }
}
