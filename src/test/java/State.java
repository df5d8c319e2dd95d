/** All that can be asked of an object, as a text; what is asked changes the object. */
final class State {
    private final ColumnCasts x;
    private final StringBuilder text = new StringBuilder();

    private State(ColumnCasts x) {
        this.x = x;
    }

    /** But for what was refused so far. */
    static String of(ColumnCasts x) {
        State state = new State(x);
        state.add("got " + x.got());
        state.add("bytes " + x.count(7));
        state.table();
        state.sorted();
        state.read();
        state.undone();
        return state.text.toString();
    }

    /** What an image keeps. */
    static String ofTable(ColumnCasts x) {
        State state = new State(x);
        state.table();
        return state.text.toString();
    }

    private void add(String what) {
        text.append(what).append("; ");
    }

    private void table() {
        add("rows " + x.count(0));
        for (int c = 0; c < x.count(1); c++) {
            column(c);
        }
        views();
        add(x.count(2) + " keys");
        add("looked at " + x.looked(0) + " and " + x.looked(1));
        add("by " + Checks.ordered(x, 0) + " and " + Checks.ordered(x, 1));
    }

    private void column(int c) {
        int kind = x.kindOf(c);
        add("column " + c + ", kind " + kind + (kind < 0 ? "" : " " + Checks.spelled(x, c)));
    }

    private void views() {
        add("views " + Checks.viewed(x, 0) + " and " + Checks.viewed(x, 1));
    }

    private void sorted() {
        add("sorted " + x.sort(0) + " and " + x.sort(1));
        views();
        add("run " + x.run(0) + " and " + x.run(1));
        views();
    }

    /** The text goes on, so that its bytes are seen. */
    private void read() {
        x.feed(')');
        int c = x.read();
        add("read " + c);
        if (c >= 0) {
            column(c);
        }
    }

    private void undone() {
        add("undone " + x.undo());
        table();
    }
}
