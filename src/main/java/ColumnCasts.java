/** A table of columns of mixed kinds; ../shared/DOC.md says what each call does. */
public final class ColumnCasts {
    public static final int NONE = -1, BAD = -2, STATE = -3, FULL = -4, OVER = -15, BEYOND = -21, OTHER = -22, NOTHING = -23;

    private static final int BOOLEAN = 0, BYTE = 1, CHAR = 2, SHORT = 3, INT = 4, LONG = 5, FLOAT = 6, DOUBLE = 7;
    private static final int BOXED = 8, ANY = 9, NOTES = 10;
    // What a cell holds beside a box of a kind 0 .. 7; 100 more is what ask() answers.
    private static final int EMPTY = -1, WORD = 10;
    private static final int AS_IT_IS = 8, WRITE_BOX = 10, WRITE_EMPTY = 18, WRITE_WORD = 19;
    private static final int LESS = 0, FITS = 1, MORE = 2, IS_EMPTY = 3, IS_FULL = 4;
    private static final int LAST_TEST = 5, LAST_WORD = 702, LAST_SIGN = 127;
    private static final int NO_SUCH = -5, FAULT = -10, LOST = -1000;
    private static final int MOST_ROWS = 40, MOST_COLUMNS = 12, MOST_KEYS = 4, MOST_FILTERS = 6, MOST_BYTES = 100;
    private static final int VIEWS = 2, FILTER_SETS = 64, MOST_SPELLED = 1000, MOST_DIGITS = 20;
    private static final String KIND_LETTERS = "zbcsilfdwon";

    private final Table table = new Table();
    private final Table imaged = new Table();
    private boolean isImaged;
    private final Text text = new Text();
    private final Spelling spelling = new Spelling();
    private final Column fresh = new Column();
    private final Filter told = new Filter();
    private final Cell cell = new Cell();
    private final Cell other = new Cell();
    private final Cell turned = new Cell();
    private final int[] stoodBefore = new int[MOST_ROWS];
    private final boolean[] stays = new boolean[MOST_ROWS];
    private final int[] passed = new int[MOST_ROWS];
    private final int[] left = new int[FILTER_SETS];
    private final int[] fewest = new int[FILTER_SETS];
    private long latest;
    private int beyondRefused, otherRefused, nothingRefused;

    public ColumnCasts() {
    }

    // ---- the table

    public int size(int n) {
        if (n < 0 || n > MOST_ROWS) {
            return BAD;
        }
        int had = table.rows;
        table.resize(n);
        return had;
    }

    public int column(int kind) {
        if (!isKind(kind)) {
            return BAD;
        }
        if (table.came >= MOST_COLUMNS) {
            return FULL;
        }
        Column next = table.nextColumn();
        next.begin(kind, table.rows);
        return table.came - 1;
    }

    public int drop(int c) {
        int wrong = columnRefusal(c);
        if (wrong != 0) {
            return wrong;
        }
        Column gone = table.columns[c];
        gone.isGone = true;
        return gone.kind;
    }

    public int kindOf(int c) {
        int wrong = columnRefusal(c);
        return wrong != 0 ? wrong : table.columns[c].kind;
    }

    public int ask(int c, int r, int as) {
        int wrong = columnRefusal(c);
        if (wrong != 0) {
            return wrong;
        }
        if (as < BOOLEAN || as > AS_IT_IS) {
            return BAD;
        }
        Column asked = table.columns[c];
        wrong = askRefusal(asked.kind, r, as);
        if (wrong != 0) {
            return refused(wrong);
        }
        asked.load(r, cell);
        if (as == AS_IT_IS) {
            latest = cell.bits();
            return 100 + cell.kind;
        }
        cell.turnInto(as);
        latest = cell.bits();
        return 1;
    }

    public long got() {
        return latest;
    }

    public int write(int c, int r, int as, long v) {
        int wrong = columnRefusal(c);
        if (wrong != 0) {
            return wrong;
        }
        if (!isWayToWrite(as) || as == WRITE_WORD && !isWord(v)) {
            return BAD;
        }
        Column written = table.columns[c];
        wrong = writeRefusal(written.kind, r, as);
        if (wrong != 0) {
            return refused(wrong);
        }
        makeWritten(written.kind, as, v);
        written.store(r, cell);
        return 1;
    }

    public int bring(int c, int i, int d, int j, int n) {
        int wrong = columnsRefusal(c, d);
        if (wrong != 0) {
            return wrong;
        }
        Column from = table.columns[c];
        Column to = table.columns[d];
        if (from.kind != to.kind) {
            return refused(OTHER);
        }
        if (!isStretch(i, n) || !isStretch(j, n)) {
            return refused(BEYOND);
        }
        to.take(from, i, j, n);
        return n;
    }

    public int swap(int r, int q) {
        if (!isRow(r) || !isRow(q)) {
            return refused(BEYOND);
        }
        int there = 0;
        for (int c = 0; c < table.came; c++) {
            Column each = table.columns[c];
            if (!each.isGone) {
                each.load(r, cell);
                each.load(q, other);
                each.store(r, other);
                each.store(q, cell);
                there++;
            }
        }
        return there;
    }

    public int differs(int r, int q) {
        if (!isRow(r) || !isRow(q)) {
            return refused(BEYOND);
        }
        for (int c = 0; c < table.came; c++) {
            if (!table.columns[c].isGone && !isSame(table.columns[c], r, q)) {
                return c;
            }
        }
        return NO_SUCH;
    }

    public int of(int c, int what) {
        int wrong = columnRefusal(c);
        if (wrong != 0) {
            return wrong;
        }
        Column asked = table.columns[c];
        switch (what) {
            case 0:
                return emptyCells(asked);
            case 1:
                return unlikeCells(asked);
            case 2:
                return cellsNotAhead(asked);
            default:
                return BAD;
        }
    }

    // ---- views, keys, filters

    public int view(int view) {
        if (!isView(view)) {
            return NONE;
        }
        table.views[view].showAll(table.rows);
        return table.rows;
    }

    public int viewed(int view, int i) {
        if (!isView(view)) {
            return NONE;
        }
        View asked = table.views[view];
        if (i == -1) {
            return asked.length;
        }
        return i < 0 || i >= asked.length ? NONE : asked.rows[i];
    }

    public int keep(int view, int c, int test, int kind, long v) {
        if (!isView(view)) {
            return NONE;
        }
        int wrong = columnRefusal(c);
        if (wrong != 0) {
            return wrong;
        }
        if (!isTest(test, kind, v)) {
            return BAD;
        }
        told.set(c, test, kind, v);
        View kept = table.views[view];
        for (int i = 0; i < kept.length; i++) {
            stays[i] = passes(told, kept.rows[i]);
        }
        kept.keepThose(stays);
        return kept.length;
    }

    public int key(int c, boolean isTurned) {
        if (c == -1) {
            table.keyCount = 0;
            return 0;
        }
        int wrong = columnRefusal(c);
        if (wrong != 0) {
            return wrong;
        }
        if (table.keyCount >= MOST_KEYS) {
            return FULL;
        }
        table.addKey(c, isTurned);
        return table.keyCount;
    }

    public int sort(int view) {
        if (!isView(view)) {
            return NONE;
        }
        if (table.keyCount == 0) {
            return STATE;
        }
        View sorted = table.views[view];
        System.arraycopy(sorted.rows, 0, stoodBefore, 0, sorted.length);
        insertInOrder(sorted);
        int moved = 0;
        for (int i = 0; i < sorted.length; i++) {
            if (sorted.rows[i] != stoodBefore[i]) {
                moved++;
            }
        }
        return moved;
    }

    public int filter(int c, int test, int kind, long v) {
        if (c == -1) {
            table.filterCount = 0;
            return 0;
        }
        int wrong = columnRefusal(c);
        if (wrong != 0) {
            return wrong;
        }
        if (!isTest(test, kind, v)) {
            return BAD;
        }
        if (table.filterCount >= MOST_FILTERS) {
            return FULL;
        }
        table.nextFilter().set(c, test, kind, v);
        return table.filterCount;
    }

    public int order(int view, int k) {
        if (!isView(view) || k < -1 || k >= table.filterCount) {
            return NONE;
        }
        countLeft(table.views[view]);
        countFewest();
        return k == -1 ? fewest[0] : filterAt(k);
    }

    public int looked(int view) {
        if (!isView(view)) {
            return NONE;
        }
        View asked = table.views[view];
        int looks = 0;
        for (int i = 0; i < asked.length; i++) {
            int stood = filtersStood(asked.rows[i]);
            looks += stood < table.filterCount ? stood + 1 : stood;
        }
        return looks;
    }

    public int run(int view) {
        if (!isView(view)) {
            return NONE;
        }
        View filtered = table.views[view];
        for (int i = 0; i < filtered.length; i++) {
            stays[i] = filtersStood(filtered.rows[i]) == table.filterCount;
        }
        filtered.keepThose(stays);
        return filtered.length;
    }

    // ---- pairs, groups, casts

    public int pair(int c, int d, int i) {
        int wrong = columnsRefusal(c, d);
        if (wrong != 0) {
            return wrong;
        }
        View first = table.views[0];
        View second = table.views[1];
        int pairs = 0;
        for (int p = 0; p < first.length; p++) {
            table.columns[c].load(first.rows[p], cell);
            for (int q = 0; q < second.length; q++) {
                table.columns[d].load(second.rows[q], other);
                if (cell.fits(other)) {
                    if (pairs == i) {
                        return 100 * first.rows[p] + second.rows[q];
                    }
                    pairs++;
                }
            }
        }
        return i == -1 ? pairs : NONE;
    }

    public int group(int view, int c, int i, int what) {
        if (!isView(view)) {
            return NONE;
        }
        int wrong = columnRefusal(c);
        if (wrong != 0) {
            return wrong;
        }
        View asked = table.views[view];
        Column by = table.columns[c];
        if (i == -1) {
            return groupsOf(asked, by);
        }
        int lead = leadOf(asked, by, i);
        if (lead < 0) {
            return NONE;
        }
        switch (what) {
            case 0:
                return asked.rows[lead];
            case 1:
                return membersOf(asked, by, lead);
            default:
                return BAD;
        }
    }

    public int sum(int view, int c, int i, int d) {
        if (!isView(view)) {
            return NONE;
        }
        int wrong = columnsRefusal(c, d);
        if (wrong != 0) {
            return wrong;
        }
        View asked = table.views[view];
        int lead = leadOf(asked, table.columns[c], i);
        if (lead < 0) {
            return NONE;
        }
        if (hasReals(asked, table.columns[c], lead, table.columns[d])) {
            return sumReals(asked, table.columns[c], lead, table.columns[d]);
        }
        return sumWholes(asked, table.columns[c], lead, table.columns[d]);
    }

    public int loses(int c, int kind) {
        int wrong = columnRefusal(c);
        if (wrong != 0) {
            return wrong;
        }
        return isKind(kind) ? firstLost(table.columns[c], kind) : BAD;
    }

    public int casts(int c) {
        int wrong = columnRefusal(c);
        if (wrong != 0) {
            return wrong;
        }
        int kinds = 0;
        for (int kind = BOOLEAN; kind <= NOTES; kind++) {
            if (firstLost(table.columns[c], kind) == NO_SUCH) {
                kinds |= 1 << kind;
            }
        }
        return kinds;
    }

    public int cast(int c, int kind) {
        int wrong = columnRefusal(c);
        if (wrong != 0) {
            return wrong;
        }
        if (!isKind(kind)) {
            return BAD;
        }
        Column changed = table.columns[c];
        int lost = firstLost(changed, kind);
        if (lost != NO_SUCH) {
            return LOST - lost;
        }
        int had = changed.kind;
        changed.kind = kind;
        for (int r = 0; r < table.rows; r++) {
            changed.load(r, cell);
            if (cell.isBox() && kind != ANY) {
                cell.turnInto(boxKindIn(kind));
                changed.store(r, cell);
            }
        }
        return had;
    }

    // ---- texts, the image

    public int feed(int sign) {
        if (sign < 0 || sign > LAST_SIGN) {
            return BAD;
        }
        if (text.length >= MOST_BYTES) {
            return FULL;
        }
        text.add(sign);
        return text.length;
    }

    public int read() {
        boolean isWhole = text.parse(fresh, table.rows);
        text.length = 0;
        if (!isWhole) {
            return FAULT - text.place;
        }
        if (table.came >= MOST_COLUMNS) {
            return FULL;
        }
        table.nextColumn().copyFrom(fresh);
        return table.came - 1;
    }

    public int spelled(int c, int i) {
        int wrong = columnRefusal(c);
        if (wrong != 0) {
            return wrong;
        }
        Column asked = table.columns[c];
        spelling.begin(asked.kind);
        for (int r = 0; r < table.rows; r++) {
            asked.load(r, cell);
            spelling.addItem(asked.kind, cell, r == 0);
        }
        spelling.end();
        return i < 0 || i >= spelling.length ? NO_SUCH : spelling.signs[i];
    }

    public int image() {
        imaged.copyFrom(table);
        isImaged = true;
        return table.rows;
    }

    public int undo() {
        if (!isImaged) {
            return STATE;
        }
        table.copyFrom(imaged);
        return table.rows;
    }

    public int count(int what) {
        switch (what) {
            case 0:
                return table.rows;
            case 1:
                return table.came;
            case 2:
                return table.keyCount;
            case 3:
                return table.filterCount;
            case 4:
                return beyondRefused;
            case 5:
                return otherRefused;
            case 6:
                return nothingRefused;
            case 7:
                return text.length;
            default:
                return BAD;
        }
    }

    // ---- what is refused

    private int refused(int answer) {
        if (answer == BEYOND) {
            beyondRefused++;
        } else if (answer == OTHER) {
            otherRefused++;
        } else if (answer == NOTHING) {
            nothingRefused++;
        }
        return answer;
    }

    /** 0, if there is such a column; else the answer, counted already. */
    private int columnRefusal(int c) {
        if (c < 0 || c >= MOST_COLUMNS) {
            return NONE;
        }
        if (c >= table.came) {
            return refused(NOTHING);
        }
        return table.columns[c].isGone ? refused(OTHER) : 0;
    }

    private int columnsRefusal(int c, int d) {
        int wrong = columnRefusal(c);
        return wrong != 0 ? wrong : columnRefusal(d);
    }

    private int askRefusal(int kind, int r, int as) {
        if (as != AS_IT_IS && kind > DOUBLE) {
            return OTHER;
        }
        if (!isRow(r)) {
            return BEYOND;
        }
        return as == AS_IT_IS || widens(kind, as) ? 0 : OTHER;
    }

    private int writeRefusal(int kind, int r, int as) {
        boolean isBoxToWiden = as <= DOUBLE;
        boolean isNoBox = as >= WRITE_EMPTY;
        if (isBoxToWiden && kind > DOUBLE || isNoBox && kind <= DOUBLE) {
            return OTHER;
        }
        if (!isRow(r)) {
            return BEYOND;
        }
        if (isNoBox) {
            return as == WRITE_WORD && kind == BOXED ? OTHER : 0;
        }
        return takesBox(kind, as % WRITE_BOX) ? 0 : OTHER;
    }

    private static boolean takesBox(int kind, int box) {
        if (kind == BOXED) {
            return box == INT;
        }
        return kind == ANY || kind <= DOUBLE && widens(box, kind);
    }

    private static boolean widens(int from, int to) {
        if (from == to) {
            return true;
        }
        if (from == BOOLEAN || to == CHAR || from == CHAR && to == SHORT) {
            return false;
        }
        return to > from;
    }

    private static boolean isWayToWrite(int as) {
        return as >= BOOLEAN && as <= DOUBLE || as >= WRITE_BOX && as <= WRITE_WORD;
    }

    private static boolean isKind(int kind) {
        return kind >= BOOLEAN && kind <= NOTES;
    }

    private static boolean isWord(long v) {
        return v >= 1 && v <= LAST_WORD;
    }

    private static boolean isView(int view) {
        return view >= 0 && view < VIEWS;
    }

    private static boolean isTest(int test, int kind, long v) {
        if (test < LESS || test > LAST_TEST) {
            return false;
        }
        return kind == WORD ? isWord(v) : kind >= BOOLEAN && kind <= DOUBLE;
    }

    private boolean isRow(int r) {
        return r >= 0 && r < table.rows;
    }

    // Said without a sum, which could wrap round.
    private boolean isStretch(int from, int n) {
        return from >= 0 && n >= 0 && from <= table.rows && n <= table.rows - from;
    }

    // ---- cells of columns

    private void makeWritten(int kind, int as, long v) {
        if (as == WRITE_EMPTY) {
            cell.setEmpty();
        } else if (as == WRITE_WORD) {
            cell.setWord(v);
        } else {
            cell.make(as % WRITE_BOX, v);
            if (kind <= DOUBLE) {
                cell.turnInto(kind);
            }
        }
    }

    private boolean isSame(Column column, int r, int q) {
        column.load(r, cell);
        column.load(q, other);
        return cell.isSame(other);
    }

    private int emptyCells(Column column) {
        int empty = 0;
        for (int r = 0; r < table.rows; r++) {
            column.load(r, cell);
            if (cell.kind == EMPTY) {
                empty++;
            }
        }
        return empty;
    }

    private int unlikeCells(Column column) {
        int unlike = 0;
        for (int r = 0; r < table.rows; r++) {
            int q = 0;
            while (q < r && !isSame(column, r, q)) {
                q++;
            }
            if (q == r) {
                unlike++;
            }
        }
        return unlike;
    }

    private int cellsNotAhead(Column column) {
        int notAhead = 0;
        for (int r = 1; r < table.rows; r++) {
            column.load(r, cell);
            column.load(r - 1, other);
            if (cell.rankAgainst(other) >= 0) {
                notAhead++;
            }
        }
        return notAhead;
    }

    // ---- sorting and filters

    // By insertion: rows that no key tells apart stay as they stood.
    private void insertInOrder(View view) {
        for (int i = 1; i < view.length; i++) {
            int row = view.rows[i];
            int place = i;
            while (place > 0 && isAhead(row, view.rows[place - 1])) {
                view.rows[place] = view.rows[place - 1];
                place--;
            }
            view.rows[place] = row;
        }
    }

    private boolean isAhead(int r, int q) {
        for (int k = 0; k < table.keyCount; k++) {
            Column column = table.columns[table.keys[k]];
            if (!column.isGone) {
                column.load(r, cell);
                column.load(q, other);
                int rank = cell.rankAgainst(other);
                if (rank != 0) {
                    return table.isTurned[k] ? rank > 0 : rank < 0;
                }
            }
        }
        return false;
    }

    private boolean passes(Filter filter, int row) {
        Column column = table.columns[filter.column];
        if (column.isGone) {
            return false;
        }
        column.load(row, cell);
        return cell.stands(filter.test, filter.told);
    }

    /** How many filters, as they came, a row stands ahead of the first one that it doesn't. */
    private int filtersStood(int row) {
        int stood = 0;
        while (stood < table.filterCount && passes(table.filters[stood], row)) {
            stood++;
        }
        return stood;
    }

    /** left[set]: how many rows of the view stand all filters of a set (bits). */
    private void countLeft(View view) {
        for (int i = 0; i < view.length; i++) {
            passed[i] = 0;
            for (int f = 0; f < table.filterCount; f++) {
                if (passes(table.filters[f], view.rows[i])) {
                    passed[i] |= 1 << f;
                }
            }
        }
        for (int set = 0; set < 1 << table.filterCount; set++) {
            left[set] = 0;
            for (int i = 0; i < view.length; i++) {
                if ((passed[i] & set) == set) {
                    left[set]++;
                }
            }
        }
    }

    /**
     * fewest[set]: how many cells are looked at behind the filters of a set, at best.
     * How many rows a set leaves does not depend on its order: so the best way on
     * from each set is found once, the sets that lack least first.
     */
    private void countFewest() {
        int all = (1 << table.filterCount) - 1;
        fewest[all] = 0;
        for (int set = all - 1; set >= 0; set--) {
            int best = -1;
            for (int f = 0; f < table.filterCount; f++) {
                int more = set | 1 << f;
                if (more != set && (best < 0 || fewest[more] < best)) {
                    best = fewest[more];
                }
            }
            fewest[set] = left[set] + best;
        }
    }

    /** The k-th filter of the best order, the least one wherever several are as good. */
    private int filterAt(int k) {
        int set = 0;
        int chosen = 0;
        for (int step = 0; step <= k; step++) {
            chosen = 0;
            while (chosen < table.filterCount && !isBestNext(set, chosen)) {
                chosen++;
            }
            if (chosen < table.filterCount) {
                set |= 1 << chosen;
            }
        }
        return chosen;
    }

    private boolean isBestNext(int set, int filter) {
        int more = set | 1 << filter;
        return more != set && fewest[set] == left[set] + fewest[more];
    }

    // ---- groups

    private boolean isLead(View view, Column by, int place) {
        for (int p = 0; p < place; p++) {
            if (isSame(by, view.rows[p], view.rows[place])) {
                return false;
            }
        }
        return true;
    }

    private int groupsOf(View view, Column by) {
        int groups = 0;
        for (int p = 0; p < view.length; p++) {
            if (isLead(view, by, p)) {
                groups++;
            }
        }
        return groups;
    }

    /** The place in the view where the i-th group begins; -1: there is no such group. */
    private int leadOf(View view, Column by, int i) {
        int groups = 0;
        for (int p = 0; p < view.length; p++) {
            if (isLead(view, by, p)) {
                if (groups == i) {
                    return p;
                }
                groups++;
            }
        }
        return -1;
    }

    private int membersOf(View view, Column by, int lead) {
        int members = 0;
        for (int p = lead; p < view.length; p++) {
            if (isSame(by, view.rows[lead], view.rows[p])) {
                members++;
            }
        }
        return members;
    }

    /** Whether the row at a place counts in the sum; its cell is loaded then. */
    private boolean loadSummand(View view, Column by, int lead, Column summed, int place) {
        if (!isSame(by, view.rows[lead], view.rows[place])) {
            return false;
        }
        summed.load(view.rows[place], cell);
        return cell.isNumber();
    }

    private boolean hasReals(View view, Column by, int lead, Column summed) {
        for (int p = lead; p < view.length; p++) {
            if (loadSummand(view, by, lead, summed, p) && !cell.isWhole()) {
                return true;
            }
        }
        return false;
    }

    private int sumReals(View view, Column by, int lead, Column summed) {
        double total = 0.0;
        for (int p = lead; p < view.length; p++) {
            if (loadSummand(view, by, lead, summed, p)) {
                total += cell.real;
            }
        }
        cell.setReal(DOUBLE, total);
        latest = cell.bits();
        return DOUBLE;
    }

    private int sumWholes(View view, Column by, int lead, Column summed) {
        long total = 0;
        for (int p = lead; p < view.length; p++) {
            if (loadSummand(view, by, lead, summed, p)) {
                long next = total + cell.number;
                // Both signs lost: the sum went round.
                if (((total ^ next) & (cell.number ^ next)) < 0) {
                    return OVER;
                }
                total = next;
            }
        }
        latest = total;
        return LONG;
    }

    // ---- casts

    private static int boxKindIn(int kind) {
        return kind == BOXED ? INT : kind;
    }

    private int firstLost(Column column, int kind) {
        for (int r = 0; r < table.rows; r++) {
            column.load(r, cell);
            if (!comesBack(cell, kind)) {
                return r;
            }
        }
        return NO_SUCH;
    }

    private boolean comesBack(Cell had, int kind) {
        if (had.kind == EMPTY) {
            return kind >= BOXED;
        }
        if (had.kind == WORD) {
            return kind >= ANY;
        }
        if (kind >= ANY) {
            return kind == ANY;
        }
        turned.copyFrom(had);
        turned.turnInto(boxKindIn(kind));
        turned.turnInto(had.kind);
        return turned.isSame(had);
    }

    /** What a cell holds: nothing, a word, or a box of a kind 0 .. 7. */
    private static final class Cell {
        int kind = EMPTY;
        // Of kinds 0 .. 5 the number, of a word that of which it is made; else 0.
        long number;
        // Of kinds 1 .. 7 the worth as a double; else 0. No double here is -0.0
        // or not a number, so like ones have like bits.
        double real;

        void setEmpty() {
            kind = EMPTY;
            number = 0;
            real = 0.0;
        }

        void setWord(long v) {
            kind = WORD;
            number = v;
            real = 0.0;
        }

        void setWhole(int box, long v) {
            kind = box;
            number = v;
            real = box == BOOLEAN ? 0.0 : (double) v;
        }

        void setReal(int box, double v) {
            kind = box;
            number = 0;
            real = v;
        }

        void copyFrom(Cell from) {
            kind = from.kind;
            number = from.number;
            real = from.real;
        }

        boolean isBox() {
            return kind >= BOOLEAN && kind <= DOUBLE;
        }

        boolean isNumber() {
            return kind >= BYTE && kind <= DOUBLE;
        }

        boolean isWhole() {
            return kind >= BYTE && kind <= LONG;
        }

        void make(int box, long v) {
            switch (box) {
                case BOOLEAN:
                    setWhole(BOOLEAN, v & 1);
                    break;
                case FLOAT:
                    setReal(FLOAT, (double) ((float) v / 4.0f));
                    break;
                case DOUBLE:
                    setReal(DOUBLE, (double) v / 4.0);
                    break;
                default:
                    setWhole(box, lowestBits(box, v));
                    break;
            }
        }

        /** Casts a box as Java does. */
        void turnInto(int box) {
            if (kind == FLOAT || kind == DOUBLE) {
                turnReal(box, real);
            } else {
                turnWhole(box, number);
            }
        }

        void turnReal(int box, double v) {
            switch (box) {
                case BOOLEAN:
                    setWhole(BOOLEAN, v != 0.0 ? 1 : 0);
                    break;
                case LONG:
                    setWhole(LONG, (long) v);
                    break;
                case FLOAT:
                    setReal(FLOAT, (double) (float) v);
                    break;
                case DOUBLE:
                    setReal(DOUBLE, v);
                    break;
                default:
                    setWhole(box, lowestBits(box, (int) v));
                    break;
            }
        }

        void turnWhole(int box, long v) {
            switch (box) {
                case BOOLEAN:
                    setWhole(BOOLEAN, v != 0 ? 1 : 0);
                    break;
                case FLOAT:
                    setReal(FLOAT, (double) (float) v);
                    break;
                case DOUBLE:
                    setReal(DOUBLE, (double) v);
                    break;
                default:
                    setWhole(box, lowestBits(box, v));
                    break;
            }
        }

        static long lowestBits(int box, long v) {
            switch (box) {
                case BYTE:
                    return (byte) v;
                case CHAR:
                    return (char) v;
                case SHORT:
                    return (short) v;
                case INT:
                    return (int) v;
                default:
                    return v;
            }
        }

        /** The number of a box, of a word that of which it is made, 0 for nothing. */
        long bits() {
            if (kind == FLOAT) {
                return (int) realBits(23, 127, 31);
            }
            return kind == DOUBLE ? realBits(52, 1023, 63) : number;
        }

        // Reals here are 0 or from 0.25 to 2^69 (their sign apart): always normal ones.
        long realBits(int fractionBits, int bias, int signBit) {
            if (real == 0.0) {
                return 0;
            }
            double rest = real < 0.0 ? -real : real;
            long power = bias;
            for (int k = 0; k < 2000 && rest >= 2.0; k++) {
                rest = rest / 2.0;
                power++;
            }
            for (int k = 0; k < 2000 && rest < 1.0; k++) {
                rest = rest * 2.0;
                power--;
            }
            long fraction = (long) ((rest - 1.0) * (double) (1L << fractionBits));
            long sign = real < 0.0 ? 1L << signBit : 0;
            return sign | power << fractionBits | fraction;
        }

        boolean isSame(Cell to) {
            return kind == to.kind && number == to.number && real == to.real;
        }

        /** Booleans, numbers, words, nothing: in this order by rank. */
        int family() {
            if (kind == EMPTY) {
                return 3;
            }
            if (kind == WORD) {
                return 2;
            }
            return kind == BOOLEAN ? 0 : 1;
        }

        /** A word's place in a book, else the number. */
        long place() {
            if (kind != WORD) {
                return number;
            }
            if (number <= 26) {
                return (number - 1) * 27;
            }
            return (number - 27) / 26 * 27 + (number - 27) % 26 + 1;
        }

        /** Below 0: this one is ahead; 0: of one rank. */
        int rankAgainst(Cell to) {
            if (family() != to.family()) {
                return Integer.compare(family(), to.family());
            }
            if (real != to.real) {
                return real < to.real ? -1 : 1;
            }
            if (isNumber() && kind != to.kind) {
                return Integer.compare(kind, to.kind);
            }
            return Long.compare(place(), to.place());
        }

        boolean hasWorthWith(Cell to) {
            return kind != EMPTY && family() == to.family();
        }

        /** Below 0: this one is worth less; only behind hasWorthWith. */
        int worthAgainst(Cell to) {
            if (isNumber() && !(isWhole() && to.isWhole())) {
                return real < to.real ? -1 : real > to.real ? 1 : 0;
            }
            return Long.compare(place(), to.place());
        }

        boolean fits(Cell to) {
            return hasWorthWith(to) && worthAgainst(to) == 0;
        }

        boolean stands(int test, Cell to) {
            switch (test) {
                case LESS:
                    return hasWorthWith(to) && worthAgainst(to) < 0;
                case FITS:
                    return fits(to);
                case MORE:
                    return hasWorthWith(to) && worthAgainst(to) > 0;
                case IS_EMPTY:
                    return kind == EMPTY;
                case IS_FULL:
                    return kind != EMPTY;
                default:
                    return isSame(to);
            }
        }
    }

    /** The cells of a column, their parts in rows of arrays made once. */
    private static final class Column {
        int kind;
        boolean isGone;
        final int[] kinds = new int[MOST_ROWS];
        final long[] numbers = new long[MOST_ROWS];
        final double[] reals = new double[MOST_ROWS];

        void load(int row, Cell to) {
            if (row >= 0 && row < MOST_ROWS) {
                to.kind = kinds[row];
                to.number = numbers[row];
                to.real = reals[row];
            }
        }

        void store(int row, Cell from) {
            if (row >= 0 && row < MOST_ROWS) {
                kinds[row] = from.kind;
                numbers[row] = from.number;
                reals[row] = from.real;
            }
        }

        void begin(int newKind, int rows) {
            kind = newKind;
            isGone = false;
            renew(0, rows);
        }

        /** The cells from one row on, as far as the rows go, are new ones. */
        void renew(int from, int rows) {
            for (int r = from; r >= 0 && r < rows && r < MOST_ROWS; r++) {
                kinds[r] = kind <= DOUBLE ? kind : EMPTY;
                numbers[r] = 0;
                reals[r] = 0.0;
            }
        }

        /** Cells come over as they all were before; the stretches have been looked at. */
        void take(Column from, int i, int j, int n) {
            System.arraycopy(from.kinds, i, kinds, j, n);
            System.arraycopy(from.numbers, i, numbers, j, n);
            System.arraycopy(from.reals, i, reals, j, n);
        }

        void copyFrom(Column from) {
            kind = from.kind;
            isGone = from.isGone;
            take(from, 0, 0, MOST_ROWS);
        }
    }

    /** Rows in some order. */
    private static final class View {
        int length;
        final int[] rows = new int[MOST_ROWS];

        void showAll(int n) {
            length = 0;
            append(0, n);
        }

        void append(int from, int n) {
            for (int r = from; r < n && length < MOST_ROWS; r++) {
                rows[length] = r;
                length++;
            }
        }

        void resize(int had, int n) {
            int stay = 0;
            for (int i = 0; i < length; i++) {
                if (rows[i] < n) {
                    rows[stay] = rows[i];
                    stay++;
                }
            }
            length = stay;
            append(had, n);
        }

        /** stays[i]: whether the i-th row stays. */
        void keepThose(boolean[] stays) {
            int stay = 0;
            for (int i = 0; i < length; i++) {
                if (stays[i]) {
                    rows[stay] = rows[i];
                    stay++;
                }
            }
            length = stay;
        }

        void copyFrom(View from) {
            length = from.length;
            System.arraycopy(from.rows, 0, rows, 0, MOST_ROWS);
        }
    }

    /** A test of the cells of a column by a told one. */
    private static final class Filter {
        int column;
        int test;
        final Cell told = new Cell();

        void set(int newColumn, int newTest, int kind, long v) {
            column = newColumn;
            test = newTest;
            if (kind == WORD) {
                told.setWord(v);
            } else {
                told.make(kind, v);
            }
        }

        void copyFrom(Filter from) {
            column = from.column;
            test = from.test;
            told.copyFrom(from.told);
        }
    }

    /** All that an image keeps: rows, columns, views, keys, filters. */
    private static final class Table {
        int rows;
        int came;
        int keyCount;
        int filterCount;
        final Column[] columns = new Column[MOST_COLUMNS];
        final View[] views = new View[VIEWS];
        final int[] keys = new int[MOST_KEYS];
        final boolean[] isTurned = new boolean[MOST_KEYS];
        final Filter[] filters = new Filter[MOST_FILTERS];

        Table() {
            for (int c = 0; c < MOST_COLUMNS; c++) {
                columns[c] = new Column();
            }
            for (int v = 0; v < VIEWS; v++) {
                views[v] = new View();
            }
            for (int f = 0; f < MOST_FILTERS; f++) {
                filters[f] = new Filter();
            }
        }

        void resize(int n) {
            for (int c = 0; c < came; c++) {
                columns[c].renew(rows, n);
            }
            for (int v = 0; v < VIEWS; v++) {
                views[v].resize(rows, n);
            }
            rows = n;
        }

        /** The next column to come; the caller has looked that there is one, as for the two below. */
        Column nextColumn() {
            came++;
            return columns[came - 1];
        }

        void addKey(int column, boolean turned) {
            keys[keyCount] = column;
            isTurned[keyCount] = turned;
            keyCount++;
        }

        Filter nextFilter() {
            filterCount++;
            return filters[filterCount - 1];
        }

        void copyFrom(Table from) {
            rows = from.rows;
            came = from.came;
            keyCount = from.keyCount;
            filterCount = from.filterCount;
            for (int c = 0; c < came; c++) {
                columns[c].copyFrom(from.columns[c]);
            }
            for (int v = 0; v < VIEWS; v++) {
                views[v].copyFrom(from.views[v]);
            }
            for (int k = 0; k < keyCount; k++) {
                keys[k] = from.keys[k];
                isTurned[k] = from.isTurned[k];
            }
            for (int f = 0; f < filterCount; f++) {
                filters[f].copyFrom(from.filters[f]);
            }
        }
    }

    /** The text, and how it is read; place is the fault, where it can't be. */
    private static final class Text {
        int length;
        int place;
        final int[] signs = new int[MOST_BYTES];
        final Cell item = new Cell();

        void add(int sign) {
            if (length < MOST_BYTES) {
                signs[length] = sign;
                length++;
            }
        }

        int sign() {
            return place < length ? signs[place] : -1;
        }

        boolean skip(int sign) {
            if (sign() != sign) {
                return false;
            }
            place++;
            return true;
        }

        boolean isLetter() {
            return sign() >= 'a' && sign() <= 'z';
        }

        boolean isDigit() {
            return sign() >= '0' && sign() <= '9';
        }

        boolean parse(Column into, int rows) {
            place = 0;
            int kind = takeKind(NOTES);
            if (kind < 0 || !skip('(')) {
                return false;
            }
            into.begin(kind, rows);
            return takeItems(into, rows) && skip(')') && place == length;
        }

        int takeKind(int last) {
            for (int kind = BOOLEAN; kind <= last; kind++) {
                if (skip(KIND_LETTERS.charAt(kind))) {
                    return kind;
                }
            }
            return -1;
        }

        boolean takeItems(Column into, int rows) {
            if (sign() == ')') {
                return true;
            }
            for (int r = 0; r < rows; r++) {
                if (!takeItem(into.kind)) {
                    return false;
                }
                into.store(r, item);
                if (r + 1 == rows || !skip(',')) {
                    return true;
                }
            }
            return false;
        }

        boolean takeItem(int kind) {
            if (kind > DOUBLE && skip('_')) {
                item.setEmpty();
                return true;
            }
            if (kind == NOTES || kind == ANY && skip('\'')) {
                return takeWord();
            }
            int box = kind == ANY ? takeKind(DOUBLE) : boxKindIn(kind);
            return box >= 0 && takeBox(box);
        }

        boolean takeBox(int box) {
            boolean isNegative = skip('-');
            int digits = 0;
            long v = 0;
            while (digits < 6 && isDigit()) {
                v = v * 10 + (sign() - '0');
                place++;
                digits++;
            }
            item.make(box, isNegative ? -v : v);
            return digits > 0;
        }

        boolean takeWord() {
            if (!isLetter()) {
                return false;
            }
            long v = sign() - 'a' + 1;
            place++;
            if (isLetter()) {
                v = v * 26 + (sign() - 'a' + 1);
                place++;
            }
            item.setWord(v);
            return true;
        }
    }

    /** The text of a column, spelled sign by sign. */
    private static final class Spelling {
        int length;
        final int[] signs = new int[MOST_SPELLED];

        void add(int sign) {
            if (length < MOST_SPELLED) {
                signs[length] = sign;
                length++;
            }
        }

        void begin(int kind) {
            length = 0;
            addKind(kind);
            add('(');
        }

        void end() {
            add(')');
        }

        void addKind(int kind) {
            if (kind >= 0 && kind < KIND_LETTERS.length()) {
                add(KIND_LETTERS.charAt(kind));
            }
        }

        void addItem(int columnKind, Cell cell, boolean isFirst) {
            if (!isFirst) {
                add(',');
            }
            if (cell.kind == EMPTY) {
                add('_');
            } else if (cell.kind == WORD) {
                if (columnKind == ANY) {
                    add('\'');
                }
                addWord(cell.number);
            } else {
                if (columnKind == ANY) {
                    addKind(cell.kind);
                }
                boolean isReal = cell.kind == FLOAT || cell.kind == DOUBLE;
                addNumber(isReal ? (long) (cell.real * 4.0) : cell.number);
            }
        }

        void addWord(long v) {
            if (v > 26) {
                add((int) ('a' + (v - 27) / 26));
                add((int) ('a' + (v - 27) % 26));
            } else {
                add((int) ('a' + v - 1));
            }
        }

        // Digits by their own signs: the least long has no like one above 0.
        void addNumber(long v) {
            if (v < 0) {
                add('-');
            }
            int first = length;
            long rest = v;
            for (int d = 0; d < MOST_DIGITS && (d == 0 || rest != 0); d++) {
                int digit = (int) (rest % 10);
                add('0' + (digit < 0 ? -digit : digit));
                rest = rest / 10;
            }
            turnRound(first, length - 1);
        }

        void turnRound(int from, int to) {
            for (int i = from, j = to; i < j; i++, j--) {
                int sign = signs[i];
                signs[i] = signs[j];
                signs[j] = sign;
            }
        }
    }
}
