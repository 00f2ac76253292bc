/** Promises 1 to 9: a new object, ROWS, TEXTS. */
public final class RowsTest {
    private static final Check check = new Check();

    public static void main(String[] args) {
        newObject();
        row();
        layAndAt();
        tear();
        copy();
        mean();
        text();
        put();
        check.end();
    }

    private static void newObject() {
        HillSeer x = new HillSeer();
        for (int what = 0; what <= 10; what++) {
            check.due("new count(" + what + ")", x.count(what), 0);
        }
        check.due("new asked()", x.asked(), 0);
        check.due("new upper()", x.upper(), 0);
        check.due("new lower()", x.lower(), 1);
        check.due("new finding()", x.finding(), 0);
        for (int r = 0; r < 6; r++) {
            check.refused("new tear(" + r + ")", x, x.tear(r), 1);
        }
        for (int t = 0; t < 4; t++) {
            check.refused("new fault(" + t + ")", x, x.fault(t), 1);
        }
        check.due("new hill(0, 0)", x.hill(0, 0), HillSeer.BAD);
        check.due("new tent(0, 0)", x.tent(0, 0), HillSeer.STATE);
        check.due("new day()", x.day(), HillSeer.STATE);
        check.due("new undo(0)", x.undo(0), 0);
    }

    private static void row() {
        HillSeer x = new HillSeer();
        check.due("row(0, 0)", x.row(0, 0), 0);
        check.due("row(5, 40)", x.row(5, 40), 40);
        check.due("row(5, 41)", x.row(5, 41), HillSeer.BAD);
        check.due("row(6, 1)", x.row(6, 1), HillSeer.BAD);
        check.due("row(-1, 1)", x.row(-1, 1), HillSeer.BAD);
        check.due("row(6, -1)", x.row(6, -1), HillSeer.BAD);
        check.due("finding() behind BAD", x.finding(), 0);
        check.refused("row(5, -1)", x, x.row(5, -1), 5);
        check.due("at(5, 39) behind refusals", x.at(5, 39), 1);
        x.lay(5, 3, 8);
        check.due("row(5, 4) anew", x.row(5, 4), 4);
        x.at(5, 3);
        check.due("asked() of a row anew", x.asked(), 0);
        check.due("count(8)", x.count(8), 2);
    }

    private static void layAndAt() {
        HillSeer x = new HillSeer();
        check.refused("lay(0, 0, 1)", x, x.lay(0, 0, 1), 1);
        check.refused("at(0, 0)", x, x.at(0, 0), 1);
        x.row(0, 3);
        check.due("lay(0, 2, MIN)", x.lay(0, 2, Integer.MIN_VALUE), 1);
        check.due("asked()", x.asked(), 0);
        check.due("lay(0, 2, 7)", x.lay(0, 2, 7), 1);
        check.due("asked()", x.asked(), Integer.MIN_VALUE);
        check.due("at(0, 2)", x.at(0, 2), 1);
        check.due("asked()", x.asked(), 7);
        check.refused("lay(0, 3, 1)", x, x.lay(0, 3, 1), 2);
        check.refused("lay(0, -1, 1)", x, x.lay(0, -1, 1), 2);
        check.refused("at(0, 3)", x, x.at(0, 3), 2);
        check.refused("at(0, -1)", x, x.at(0, -1), 2);
        check.due("asked() behind refusals", x.asked(), 7);
        check.due("lay(6, 0, 1)", x.lay(6, 0, 1), HillSeer.BAD);
        check.due("lay(-1, 0, 1)", x.lay(-1, 0, 1), HillSeer.BAD);
        check.due("at(6, 0)", x.at(6, 0), HillSeer.BAD);
        check.due("at(-1, 0)", x.at(-1, 0), HillSeer.BAD);
    }

    private static void tear() {
        HillSeer x = new HillSeer();
        x.row(2, 0);
        check.due("tear(2)", x.tear(2), 1);
        check.refused("tear(2) again", x, x.tear(2), 1);
        check.due("tear(6)", x.tear(6), HillSeer.BAD);
        check.due("tear(-1)", x.tear(-1), HillSeer.BAD);
        check.due("count(8)", x.count(8), 0);
    }

    private static void copy() {
        HillSeer x = new HillSeer();
        Check.fill(x, 0, 1, 2, 3, 4, 5);
        check.due("copy onto itself, on", x.copy(0, 0, 0, 1, 4), 1);
        same(x, 0, 1, 1, 2, 3, 4);
        check.due("copy onto itself, back", x.copy(0, 1, 0, 0, 4), 1);
        same(x, 0, 1, 2, 3, 4, 4);
        check.refused("copy to a missing one", x, x.copy(0, 0, 1, 0, 1), 1);
        check.refused("copy from a missing one", x, x.copy(1, 0, 0, 0, 1), 1);
        check.refused("copy of fewer than none", x, x.copy(1, 0, 0, 0, -1), 5);
        check.due("copy(6, ..)", x.copy(6, 0, 0, 0, -1), HillSeer.BAD);
        check.due("copy(.., 6, ..)", x.copy(0, 0, 6, 0, -1), HillSeer.BAD);
        check.due("copy(-1, ..)", x.copy(-1, 0, 0, 0, 1), HillSeer.BAD);
        check.due("copy(.., -1, ..)", x.copy(0, 0, -1, 0, 1), HillSeer.BAD);
        x.row(1, 3);
        check.due("copy(0, 2, 1, 0, 3)", x.copy(0, 2, 1, 0, 3), 1);
        same(x, 1, 3, 4, 4);
        check.refused("copy beyond the first", x, x.copy(0, 3, 1, 0, 3), 2);
        check.refused("copy beyond the other", x, x.copy(0, 0, 1, 1, 3), 2);
        check.refused("copy from -1", x, x.copy(0, -1, 1, 0, 1), 2);
        check.refused("copy to -1", x, x.copy(0, 0, 1, -1, 1), 2);
        check.refused("copy of the most", x, x.copy(0, 1, 1, 1, Integer.MAX_VALUE), 2);
        check.refused("copy from the most", x, x.copy(0, Integer.MAX_VALUE, 1, 0, 1), 2);
        check.due("copy of none at the ends", x.copy(0, 5, 1, 3, 0), 1);
        check.refused("copy of none behind the end", x, x.copy(0, 6, 1, 0, 0), 2);
        same(x, 1, 3, 4, 4);
    }

    private static void same(HillSeer x, int r, int... values) {
        for (int i = 0; i < values.length; i++) {
            x.at(r, i);
            check.due("place " + i + " of ROW " + r, x.asked(), values[i]);
        }
    }

    private static void mean() {
        HillSeer x = new HillSeer();
        check.refused("mean(0)", x, x.mean(0), 1);
        x.row(0, 0);
        check.refused("mean(0) of none", x, x.mean(0), 4);
        check.due("mean(6)", x.mean(6), HillSeer.BAD);
        check.due("mean(-1)", x.mean(-1), HillSeer.BAD);
        Check.fill(x, 0, 5, 2);
        check.due("mean(0)", x.mean(0), 1);
        check.due("asked() 7 by 2", x.asked(), 3);
        Check.fill(x, 0, -8);
        check.due("mean(0) of one", x.mean(0), 1);
        check.due("asked() of one", x.asked(), -8);
        Check.fill(x, 0, -5, -2);
        x.mean(0);
        check.due("asked() -7 by 2", x.asked(), -3);
        Check.fill(x, 0, Integer.MAX_VALUE, Integer.MAX_VALUE, Integer.MAX_VALUE);
        x.mean(0);
        check.due("asked() of the most", x.asked(), Integer.MAX_VALUE);
    }

    private static void text() {
        HillSeer x = new HillSeer();
        check.due("text(0, 0)", x.text(0, 0), 0);
        check.due("text(3, 60)", x.text(3, 60), 60);
        check.due("text(3, 61)", x.text(3, 61), HillSeer.BAD);
        check.due("text(4, 1)", x.text(4, 1), HillSeer.BAD);
        check.due("text(-1, 1)", x.text(-1, 1), HillSeer.BAD);
        check.refused("text(3, -1)", x, x.text(3, -1), 5);
        check.due("put(3, 59, 1)", x.put(3, 59, 1), 1032);
        check.due("text(3, 60) anew", x.text(3, 60), 60);
        check.due("put(3, 59, 1) anew", x.put(3, 59, 1), 1032);
        check.due("count(9)", x.count(9), 2);
    }

    private static void put() {
        HillSeer x = new HillSeer();
        check.refused("put(0, 0, 1)", x, x.put(0, 0, 1), 1);
        x.text(0, 2);
        check.due("put(0, 1, 200)", x.put(0, 1, 200), 1032);
        check.due("put(0, 1, -1)", x.put(0, 1, -1), 1000 - 56);
        check.due("put(0, 1, 256)", x.put(0, 1, 256), 999);
        check.due("put(0, 1, 0)", x.put(0, 1, 0), 1000);
        check.refused("put(0, 2, 1)", x, x.put(0, 2, 1), 2);
        check.refused("put(0, -1, 1)", x, x.put(0, -1, 1), 2);
        check.due("put(4, 0, 1)", x.put(4, 0, 1), HillSeer.BAD);
        check.due("put(-1, 0, 1)", x.put(-1, 0, 1), HillSeer.BAD);
    }
}
