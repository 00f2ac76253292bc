/** Promises 1 to 9, sentence by sentence: a new object, ROWS, TEXTS. */
final class EdgesOfRows {
    private final Edges edges;

    EdgesOfRows(Edges edges) {
        this.edges = edges;
    }

    void all() {
        newObject();
        row();
        rowRefused();
        lay();
        at();
        tear();
        copy();
        copyRefused();
        mean();
        text();
        put();
    }

    private void newObject() {
        edges.of(1, "No ROWS, TEXTS, TENTS, HILLS.");
        HillSeer other = Check.camped(Check.ALL_KINDS);
        other.row(0, 3);
        for (int r = 0; r < 6; r++) {
            int it = r;
            edges.finds(Edges.NOTHING, Edges.NEW, "tear(" + r + ")", x -> x.tear(it));
        }
        for (int t = 0; t < 4; t++) {
            int it = t;
            edges.finds(Edges.NOTHING, Edges.NEW, "fault(" + t + ")", x -> x.fault(it));
        }
        for (int i = 0; i < 12; i++) {
            int it = i;
            edges.state(Edges.NEW, "tent(" + i + ", 0)", x -> x.tent(it, 0));
        }
        for (int h = 0; h < 6; h++) {
            int it = h;
            edges.bad(Edges.NEW, "hill(" + h + ", 0)", x -> x.hill(it, 0));
        }
        for (int what = 0; what <= 10; what++) {
            edges.due("count(" + what + ")", new HillSeer().count(what), 0);
        }
    }

    /** A ROW 5 with one place, of which asked() told 77. */
    private static HillSeer laid() {
        HillSeer x = new HillSeer();
        Check.fill(x, 5, 77);
        x.at(5, 0);
        return x;
    }

    private static HillSeer rowOf(int r, int n) {
        HillSeer x = laid();
        x.row(r, n);
        return x;
    }

    private void row() {
        edges.of(2, "A ROW is there with n ints 0: n.");
        for (int r = 0; r < 6; r++) {
            for (int n : new int[] {0, 1, 39, 40}) {
                HillSeer x = new HillSeer();
                x.row(r, 40);
                for (int i = 0; i < 40; i++) {
                    x.lay(r, i, -1 - i);
                }
                edges.due("row(" + r + ", " + n + ")", x.row(r, n), n);
                for (int i = 0; i < n; i++) {
                    edges.tells("at(" + r + ", " + i + ")", x, x.at(r, i), 0);
                }
                edges.due("at(" + r + ", " + n + ")", x.at(r, n), Edges.FINDING);
                edges.due("count(8)", x.count(8), 1);
            }
        }
        HillSeer x = new HillSeer();
        x.row(0, 40);
        x.lay(0, 39, 7);
        x.row(0, 0);
        x.row(0, 40);
        edges.tells("at(0, 39) of a ROW that was empty between", x, x.at(0, 39), 0);
    }

    private void rowRefused() {
        edges.of(2, "BAD: also n above 40");
        for (int r : Edges.NO_ROWS) {
            edges.bad(EdgesOfRows::laid, "row(" + r + ", 1)", x -> x.row(r, 1));
            edges.bad(EdgesOfRows::laid, "row(" + r + ", -1)", x -> x.row(r, -1));
        }
        for (int n : new int[] {41, 42, Edges.MOST}) {
            edges.bad(EdgesOfRows::laid, "row(0, " + n + ")", x -> x.row(0, n));
            edges.bad(EdgesOfRows::laid, "row(5, " + n + ")", x -> x.row(5, n));
        }
        edges.of(2, "SIZE: below 0.");
        for (int n : new int[] {-1, -2, Edges.LEAST}) {
            edges.finds(Edges.SIZE, EdgesOfRows::laid, "row(0, " + n + ")", x -> x.row(0, n));
            edges.finds(Edges.SIZE, EdgesOfRows::laid, "row(5, " + n + ")", x -> x.row(5, n));
        }
    }

    private static int[] noPlaces(int size) {
        return new int[] {Edges.LEAST, -1, size, size + 1, Edges.MOST};
    }

    private void lay() {
        edges.of(3, "Place i of a ROW is v: what it was, told by asked(): 1.");
        for (int i : new int[] {0, 39}) {
            HillSeer x = rowOf(2, 40);
            edges.tells("lay(2, " + i + ", the least)", x, x.lay(2, i, Edges.LEAST), 0);
            edges.tells("lay(2, " + i + ", the most)", x, x.lay(2, i, Edges.MOST), Edges.LEAST);
            edges.tells("lay(2, " + i + ", 0)", x, x.lay(2, i, 0), Edges.MOST);
            edges.tells("lay(2, " + i + ", 8)", x, x.lay(2, i, 8), 0);
            for (int j = 0; j < 40; j++) {
                edges.tells("at(2, " + j + ")", x, x.at(2, j), i == j ? 8 : 0);
            }
            edges.tells("at(5, 0)", x, x.at(5, 0), 77);
        }
        edges.of(3, "BAD");
        for (int r : Edges.NO_ROWS) {
            edges.bad(EdgesOfRows::laid, "lay(" + r + ", 0, 1)", x -> x.lay(r, 0, 1));
        }
        edges.of(3, "NOTHING");
        for (int r = 0; r < 5; r++) {
            int it = r;
            edges.finds(Edges.NOTHING, EdgesOfRows::laid, "lay(" + r + ", 0, 1)", x -> x.lay(it, 0, 1));
            edges.finds(Edges.NOTHING, EdgesOfRows::laid, "lay(" + r + ", -1, 1)", x -> x.lay(it, -1, 1));
        }
        edges.of(3, "BEYOND");
        for (int n : new int[] {0, 1, 40}) {
            for (int i : noPlaces(n)) {
                edges.finds(Edges.BEYOND, () -> rowOf(1, n), "lay(1, " + i + ", 9) of " + n, x -> x.lay(1, i, 9));
            }
        }
    }

    private void at() {
        edges.of(4, "Place i of a ROW, told by asked(): 1.");
        HillSeer two = new HillSeer();
        Check.fill(two, 0, Edges.LEAST, Edges.MOST);
        edges.tells("at(0, 0)", two, two.at(0, 0), Edges.LEAST);
        edges.tells("at(0, 1)", two, two.at(0, 1), Edges.MOST);
        edges.tells("at(0, 0) again", two, two.at(0, 0), Edges.LEAST);
        edges.of(4, "BAD");
        for (int r : Edges.NO_ROWS) {
            edges.bad(EdgesOfRows::laid, "at(" + r + ", 0)", x -> x.at(r, 0));
        }
        edges.of(4, "NOTHING");
        for (int r = 0; r < 5; r++) {
            int it = r;
            edges.finds(Edges.NOTHING, EdgesOfRows::laid, "at(" + r + ", 0)", x -> x.at(it, 0));
            edges.finds(Edges.NOTHING, EdgesOfRows::laid, "at(" + r + ", 40)", x -> x.at(it, 40));
        }
        edges.of(4, "BEYOND");
        for (int n : new int[] {0, 1, 40}) {
            for (int i : noPlaces(n)) {
                edges.finds(Edges.BEYOND, () -> rowOf(1, n), "at(1, " + i + ") of " + n, x -> x.at(1, i));
            }
        }
    }

    private void tear() {
        edges.of(5, "A ROW is missing: 1.");
        for (int n : new int[] {0, 40}) {
            for (int r = 0; r < 6; r++) {
                HillSeer x = new HillSeer();
                for (int other = 0; other < 6; other++) {
                    x.row(other, n);
                }
                edges.due("tear(" + r + ") of " + n, x.tear(r), 1);
                edges.due("count(8)", x.count(8), 5);
                edges.due("at(" + r + ", 0)", x.at(r, 0), Edges.FINDING);
                edges.due("finding()", x.finding(), Edges.NOTHING);
                edges.due("row(" + r + ", 2) then", x.row(r, 2), 2);
            }
        }
        edges.of(5, "BAD");
        for (int r : Edges.NO_ROWS) {
            edges.bad(EdgesOfRows::laid, "tear(" + r + ")", x -> x.tear(r));
        }
        edges.of(5, "NOTHING");
        for (int r = 0; r < 5; r++) {
            int it = r;
            edges.finds(Edges.NOTHING, EdgesOfRows::laid, "tear(" + r + ")", x -> x.tear(it));
        }
        edges.finds(Edges.NOTHING, EdgesOfRows::torn, "tear(5) again", x -> x.tear(5));
    }

    private static HillSeer torn() {
        HillSeer x = laid();
        x.tear(5);
        return x;
    }

    private void same(String when, HillSeer x, int r, int... values) {
        for (int i = 0; i < values.length; i++) {
            edges.tells(when + " at(" + r + ", " + i + ")", x, x.at(r, i), values[i]);
        }
        edges.due(when + " at(" + r + ", " + values.length + ")", x.at(r, values.length), Edges.FINDING);
    }

    private void copy() {
        edges.of(6, "n places of a ROW, from one on, come to those of another one (perhaps itself) from one on,"
                + " as if taken ahead: 1.");
        HillSeer x = new HillSeer();
        Check.fill(x, 0, 1, 2, 3, 4, 5);
        edges.due("copy one place on", x.copy(0, 0, 0, 1, 4), 1);
        same("one place on", x, 0, 1, 1, 2, 3, 4);
        Check.fill(x, 0, 1, 2, 3, 4, 5);
        edges.due("copy one place back", x.copy(0, 1, 0, 0, 4), 1);
        same("one place back", x, 0, 2, 3, 4, 5, 5);
        edges.due("copy onto the same places", x.copy(0, 0, 0, 0, 5), 1);
        same("onto the same places", x, 0, 2, 3, 4, 5, 5);
        Check.fill(x, 1, 7, 8, 9);
        edges.due("copy of the last to the last", x.copy(0, 4, 1, 2, 1), 1);
        same("the last", x, 1, 7, 8, 5);
        edges.due("copy of all of it", x.copy(1, 0, 0, 2, 3), 1);
        same("all of it", x, 0, 2, 3, 7, 8, 5);
        same("all of it, taken", x, 1, 7, 8, 5);
        edges.due("copy of none", x.copy(1, 0, 0, 0, 0), 1);
        edges.due("copy of none behind the last places", x.copy(1, 3, 0, 5, 0), 1);
        same("none", x, 0, 2, 3, 7, 8, 5);
        HillSeer wide = new HillSeer();
        wide.row(0, 40);
        wide.row(1, 40);
        wide.lay(0, 0, 4);
        wide.lay(0, 39, 6);
        edges.due("copy of 40", wide.copy(0, 0, 1, 0, 40), 1);
        edges.tells("at(1, 0)", wide, wide.at(1, 0), 4);
        edges.tells("at(1, 39)", wide, wide.at(1, 39), 6);
    }

    /** ROW 0 with 3 places, ROW 1 with 2, ROW 2 with none. */
    private static HillSeer three() {
        HillSeer x = laid();
        Check.fill(x, 0, 1, 2, 3);
        Check.fill(x, 1, 4, 5);
        x.row(2, 0);
        x.at(5, 0);
        return x;
    }

    private void copyRefused() {
        edges.of(6, "BAD");
        for (int r : Edges.NO_ROWS) {
            edges.bad(EdgesOfRows::three, "copy(" + r + ", 0, 0, 0, 1)", x -> x.copy(r, 0, 0, 0, 1));
            edges.bad(EdgesOfRows::three, "copy(0, 0, " + r + ", 0, 1)", x -> x.copy(0, 0, r, 0, 1));
            edges.bad(EdgesOfRows::three, "copy(" + r + ", 0, 0, 0, -1)", x -> x.copy(r, 0, 0, 0, -1));
            edges.bad(EdgesOfRows::three, "copy(3, 0, " + r + ", 0, 1)", x -> x.copy(3, 0, r, 0, 1));
        }
        edges.of(6, "SIZE: n below 0");
        for (int n : new int[] {-1, Edges.LEAST}) {
            edges.finds(Edges.SIZE, EdgesOfRows::three, "copy(0, 0, 1, 0, " + n + ")", x -> x.copy(0, 0, 1, 0, n));
            edges.finds(Edges.SIZE, EdgesOfRows::three, "copy(3, 0, 1, 0, " + n + ")", x -> x.copy(3, 0, 1, 0, n));
            edges.finds(Edges.SIZE, EdgesOfRows::three, "copy(0, 9, 1, 9, " + n + ")", x -> x.copy(0, 9, 1, 9, n));
        }
        edges.of(6, "NOTHING: either");
        edges.finds(Edges.NOTHING, EdgesOfRows::three, "copy from a missing one", x -> x.copy(3, 0, 0, 0, 1));
        edges.finds(Edges.NOTHING, EdgesOfRows::three, "copy to a missing one", x -> x.copy(0, 0, 3, 0, 1));
        edges.finds(Edges.NOTHING, EdgesOfRows::three, "copy of two missing ones", x -> x.copy(3, 0, 4, 0, 0));
        edges.finds(Edges.NOTHING, EdgesOfRows::three, "copy of a missing one to itself", x -> x.copy(3, 0, 3, 0, 0));
        edges.finds(Edges.NOTHING, EdgesOfRows::three, "copy from beyond to none", x -> x.copy(0, 9, 3, 0, 1));
        edges.of(6, "BEYOND: not so many there.");
        int[][] beyond = {{0, -1, 1, 0, 1}, {0, 0, 1, -1, 1}, {0, 3, 1, 0, 1}, {0, 0, 1, 2, 1}, {0, 2, 1, 0, 2},
            {0, 0, 1, 1, 2}, {0, 0, 1, 0, 3}, {1, 0, 0, 0, 3}, {2, 0, 0, 0, 1}, {0, 0, 2, 0, 1}, {0, 0, 0, 1, 3},
            {0, 4, 1, 0, 0}, {0, 0, 1, 3, 0}, {0, 0, 1, 0, 41}, {0, 1, 1, 1, Edges.MOST}, {0, Edges.MOST, 1, 0, 1}, {0, 0, 1, Edges.MOST, 1},
            {0, Edges.MOST, 1, Edges.MOST, Edges.MOST}, {0, Edges.LEAST, 1, 0, 1}, {0, 0, 1, Edges.LEAST, 1}};
        for (int[] b : beyond) {
            edges.finds(Edges.BEYOND, EdgesOfRows::three, "copy" + java.util.Arrays.toString(b),
                    x -> x.copy(b[0], b[1], b[2], b[3], b[4]));
        }
    }

    private void mean(int want, int... values) {
        HillSeer x = laid();
        Check.fill(x, 3, values);
        edges.tells("mean(3) of " + java.util.Arrays.toString(values), x, x.mean(3), want);
    }

    private static int[] many(int n, int value) {
        int[] values = new int[n];
        java.util.Arrays.fill(values, value);
        return values;
    }

    private void mean() {
        edges.of(7, "The mean of a ROW's ints, cut, told by asked(): 1.");
        mean(3, 5, 2);
        mean(-3, -5, -2);
        mean(0, -1, 0);
        mean(0, 1, 0, 0);
        mean(-8, -8);
        mean(Edges.MOST, Edges.MOST);
        mean(Edges.LEAST, Edges.LEAST);
        mean(0, Edges.LEAST, Edges.MOST);
        mean(Edges.MOST, many(40, Edges.MOST));
        mean(Edges.LEAST, many(40, Edges.LEAST));
        edges.of(7, "BAD");
        for (int r : Edges.NO_ROWS) {
            edges.bad(EdgesOfRows::laid, "mean(" + r + ")", x -> x.mean(r));
        }
        edges.of(7, "NOTHING");
        for (int r = 0; r < 5; r++) {
            int it = r;
            edges.finds(Edges.NOTHING, EdgesOfRows::laid, "mean(" + r + ")", x -> x.mean(it));
        }
        edges.of(7, "NOUGHT.");
        edges.finds(Edges.NOUGHT, () -> rowOf(0, 0), "mean(0) of none", x -> x.mean(0));
    }

    private static HillSeer written() {
        HillSeer x = laid();
        Check.write(x, 3, "abc");
        return x;
    }

    private void text() {
        edges.of(8, "A TEXT is there with n blanks: n.");
        for (int t = 0; t < 4; t++) {
            for (int n : new int[] {0, 1, 59, 60}) {
                HillSeer x = new HillSeer();
                Check.write(x, t, "x".repeat(60));
                edges.due("text(" + t + ", " + n + ")", x.text(t, n), n);
                for (int i = 0; i < n; i++) {
                    edges.due("put(" + t + ", " + i + ", 0)", x.put(t, i, 0), 1032);
                }
                edges.due("put(" + t + ", " + n + ", 0)", x.put(t, n, 0), Edges.FINDING);
                edges.due("count(9)", x.count(9), 1);
            }
        }
        edges.of(8, "BAD: also n above 60");
        for (int t : Edges.NO_TEXTS) {
            edges.bad(EdgesOfRows::written, "text(" + t + ", 1)", x -> x.text(t, 1));
            edges.bad(EdgesOfRows::written, "text(" + t + ", -1)", x -> x.text(t, -1));
        }
        for (int n : new int[] {61, 62, Edges.MOST}) {
            edges.bad(EdgesOfRows::written, "text(0, " + n + ")", x -> x.text(0, n));
            edges.bad(EdgesOfRows::written, "text(3, " + n + ")", x -> x.text(3, n));
        }
        edges.of(8, "SIZE: below 0.");
        for (int n : new int[] {-1, Edges.LEAST}) {
            edges.finds(Edges.SIZE, EdgesOfRows::written, "text(0, " + n + ")", x -> x.text(0, n));
            edges.finds(Edges.SIZE, EdgesOfRows::written, "text(3, " + n + ")", x -> x.text(3, n));
        }
    }

    private void put() {
        edges.of(9, "Byte i of a TEXT is v, cut to a byte: what it was, and 1000 more.");
        int[][] cuts = {{0, 0}, {127, 127}, {128, -128}, {255, -1}, {256, 0}, {-1, -1}, {-128, -128}, {-129, 127},
            {-256, 0}, {372, 116}, {Edges.MOST, -1}, {Edges.LEAST, 0}};
        for (int i : new int[] {0, 59}) {
            HillSeer x = new HillSeer();
            x.text(2, 60);
            int before = 32;
            for (int[] cut : cuts) {
                edges.due("put(2, " + i + ", " + cut[0] + ")", x.put(2, i, cut[0]), 1000 + before);
                before = cut[1];
            }
            edges.due("put(2, " + i + ", 1)", x.put(2, i, 1), 1000 + before);
            edges.due("put(2, " + (59 - i) + ", 1)", x.put(2, 59 - i, 1), 1032);
        }
        edges.of(9, "BAD");
        for (int t : Edges.NO_TEXTS) {
            edges.bad(EdgesOfRows::written, "put(" + t + ", 0, 1)", x -> x.put(t, 0, 1));
        }
        edges.of(9, "NOTHING");
        for (int t = 0; t < 3; t++) {
            int it = t;
            edges.finds(Edges.NOTHING, EdgesOfRows::written, "put(" + t + ", 0, 1)", x -> x.put(it, 0, 1));
            edges.finds(Edges.NOTHING, EdgesOfRows::written, "put(" + t + ", 60, 1)", x -> x.put(it, 60, 1));
        }
        edges.of(9, "BEYOND");
        for (int n : new int[] {0, 1, 60}) {
            for (int i : noPlaces(n)) {
                edges.finds(Edges.BEYOND, () -> textOf(n), "put(1, " + i + ", 9) of " + n, x -> x.put(1, i, 9));
            }
        }
    }

    private static HillSeer textOf(int n) {
        HillSeer x = laid();
        x.text(1, n);
        return x;
    }
}
