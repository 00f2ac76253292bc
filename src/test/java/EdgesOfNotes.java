/** Promises 31 to 33, sentence by sentence, and what 'Terms' say of notes: from where it was said. */
final class EdgesOfNotes {
    private static final int[] EIGHT = {0, 2, 99, 2, 0, 2, 99, 2, 0, 2, 99, 2, 0, 2, 99, 2};
    private final Edges edges;

    EdgesOfNotes(Edges edges) {
        this.edges = edges;
    }

    void all() {
        notes();
        from();
        kinds();
        given();
        badNumbers();
        missing();
        wrongSizes();
        wrongNumbers();
    }

    private static HillSeer noted(String text, int... notes) {
        HillSeer x = Edges.camped(text);
        Check.fill(x, 0, notes);
        return x;
    }

    private void notes() {
        edges.of(0, "from where it was (notes: a ROW of pairs, 0 to 8: a DAY 0 .. 99, a WORD 0 .. 2: NOTHING; SIZE;"
                + " UNLIKE; behind BAD).");
        String text = "t345444444444h001h011h021f001";
        for (int day : new int[] {0, 1, 98, 99}) {
            boolean odd = day % 2 == 1;
            edges.due("from(0) of SILENCE on " + day, noted(text, day, 0).from(0), odd ? 10 : 2);
            edges.due("from(0) of a BLESSING on " + day, noted(text, day, 1).from(0), 4);
            edges.due("from(0) of a CURSE on " + day, noted(text, day, 2).from(0), odd ? 1 : 9);
        }
        edges.due("from(0) of no pair", noted(text).from(0), 15);
        edges.due("from(0) of eight pairs", noted(text, EIGHT).from(0), 1);
        edges.finds(Edges.SIZE, () -> noted(text, new int[18]), "from(0) of nine pairs", x -> x.from(0));
        edges.finds(Edges.SIZE, () -> noted(text, 100, 3, 0), "from(0): SIZE, not UNLIKE", x -> x.from(0));
        edges.finds(Edges.UNLIKE, () -> noted(text, 100, 0), "from(0) of DAY 100", x -> x.from(0));
        edges.finds(Edges.UNLIKE, () -> noted(text, 0, 3), "from(0) of WORD 3", x -> x.from(0));
        edges.finds(Edges.NOTHING, Edges.camp(text), "from(0) of nothing", x -> x.from(0));
        edges.bad(() -> noted(text, 100, 3, 0), "kinds(4, 0): BAD, not SIZE", x -> x.kinds(4, 0));
        edges.bad(() -> noted(text, 100, 3), "given(12, 0, 0): BAD, not UNLIKE", x -> x.given(12, 0, 0));
        edges.bad(Edges.camp(text), "given(0, 4, 0): BAD, not NOTHING", x -> x.given(0, 4, 0));
    }

    private void from() {
        edges.of(31, "From which HILLS (bits) all these WORDS would be said on these DAYS, TENTS as they are.");
        String text = "t943444444440f002h001h111f112h031h111";
        HillSeer x = noted(text, 0, 1);
        edges.due("from(0) of a BLESSING on DAY 0", x.from(0), 3);
        x.day();
        edges.due("from(0) on another DAY", x.from(0), 3);
        Check.fill(x, 0, 0, 2, 1, 0);
        edges.due("from(0) of a CURSE, then SILENCE", x.from(0), 0);
        Check.fill(x, 0, 1, 2);
        edges.due("from(0) of a CURSE on DAY 1", x.from(0), 4 + 8 + 32);
        Check.fill(x, 0, 0, 1, 0, 2);
        edges.due("from(0) of two WORDS on one DAY", x.from(0), 0);
        x.row(0, 0);
        edges.due("from(0) of none", x.from(0), 63);
        Check.fill(x, 0, 0, 2);
        edges.due("from(0) of CURSES", x.from(0), 44);
        x.change(11, 3);
        edges.due("from(0) behind a CHANGE", x.from(0), 16);
        edges.due("count(1): aside", x.count(1), 1);
        HillSeer none = new HillSeer();
        none.row(0, 0);
        edges.due("from(0) without HILLS", none.from(0), 0);
        HillSeer one = noted("t543333333334f001", 0, 1, 1, 0);
        edges.due("from(0) of a FOGGY one", one.from(0), 1);
        Check.fill(one, 0, 0, 1, 1, 1);
        edges.due("from(0) of no FOGGY one", one.from(0), 0);
    }

    private void kinds(String text, int want, int... notes) {
        HillSeer x = noted(text, notes);
        long before = x.digest();
        edges.due("kinds(0, 0) of " + text + ", " + java.util.Arrays.toString(notes), x.kinds(0, 0), want);
        edges.due("digest()", x.digest(), before);
    }

    private void kinds() {
        edges.of(32, "Of which KINDS (bits) a HILL can be by such notes (its first TENT, how BROAD as they are).");
        for (char letter : "hbwfir".toCharArray()) {
            String of = letter + "001";
            kinds("t544444444444" + of, 63);
            kinds("t544444444444" + of, 31, 0, 1);
            kinds("t544444444444" + of, 32, 0, 0);
            kinds("t544444444444" + of, 40, 1, 0);
            kinds("t544444444444" + of, 8, 0, 1, 99, 0);
            kinds("t344444444444" + of, 27, 0, 2);
            kinds("t344444444444" + of, 36, 0, 0);
            kinds("t444444444444" + of, 63, 99, 0);
            kinds("t444444444444" + of, 0, 0, 0, 0, 1);
            // TENT 2 lies in the view of a HIGH one alone.
            kinds("t443444444444" + letter + "002", 16, 0, 2);
            kinds("t444444444443" + letter + "111", 27, 98, 2);
        }
        HillSeer two = noted("t544444444440h001h111", 0, 2);
        edges.due("kinds(0, 0) of the first", two.kinds(0, 0), 0);
        edges.due("kinds(1, 0) of the other", two.kinds(1, 0), 27);
    }

    private void given(String text, int tent, int want, int... notes) {
        HillSeer x = noted(text, notes);
        long before = x.digest();
        edges.due("given(" + tent + ", 0, 0) of " + text, x.given(tent, 0, 0), want);
        edges.due("digest()", x.digest(), before);
    }

    private void given() {
        edges.of(33, "What can be GIVEN (bits 0 .. 9: that and 4 together) of a TENT by such notes of a HILL, all"
                + " others as they are.");
        for (int figure = 0; figure <= 9; figure += 9) {
            given("t" + figure + "44444444444h001", 0, 1023);
            given("t" + figure + "44444444444h001", 0, 15, 0, 2);
            given("t" + figure + "44444444444h001", 0, 16, 0, 0);
            given("t" + figure + "44444444444h001", 0, 992, 0, 1);
            given("t" + figure + "44444444444w001", 0, 31, 0, 0);
            given("t" + figure + "44444444444w001", 0, 0, 0, 2);
            given("t" + figure + "44444444444r001", 0, 63, 0, 0);
            given("t" + figure + "44444444444f001", 0, 15, 0, 2, 1, 0);
            given("t" + figure + "44444444444f001", 0, 0, 1, 2);
        }
        given("t444444444444h111", 11, 992, 99, 1);
        given("t044444444444h002", 1, 512, 0, 1);
        given("t944444444444h002", 1, 0, 0, 2);
        given("t844444444444h002", 1, 1, 0, 0);
        given("t544444444444h001", 11, 1023, 0, 1);
        given("t544444444444h001", 11, 0, 0, 2);
        given("t444444444444h001", 0, 0, 0, 1, 0, 2);
    }

    private void badNumbers() {
        edges.of(31, "BAD");
        for (int r : Edges.NO_ROWS) {
            edges.bad(() -> noted(Check.ALL_KINDS, 0, 1), "from(" + r + ")", x -> x.from(r));
        }
        edges.of(32, "BAD");
        for (int r : Edges.NO_ROWS) {
            edges.bad(() -> noted(Check.ALL_KINDS, 0, 1), "kinds(0, " + r + ")", x -> x.kinds(0, r));
        }
        for (int h : Edges.noHills(6)) {
            edges.bad(() -> noted(Check.ALL_KINDS, 0, 1), "kinds(" + h + ", 0)", x -> x.kinds(h, 0));
        }
        edges.bad(Edges.NEW, "kinds(0, 0) without HILLS", x -> x.kinds(0, 0));
        edges.of(33, "BAD");
        for (int r : Edges.NO_ROWS) {
            edges.bad(() -> noted(Check.ALL_KINDS, 0, 1), "given(0, 0, " + r + ")", x -> x.given(0, 0, r));
        }
        for (int h : Edges.noHills(6)) {
            edges.bad(() -> noted(Check.ALL_KINDS, 0, 1), "given(0, " + h + ", 0)", x -> x.given(0, h, 0));
        }
        for (int i : Edges.NO_TENTS) {
            edges.bad(() -> noted(Check.ALL_KINDS, 0, 1), "given(" + i + ", 0, 0)", x -> x.given(i, 0, 0));
        }
        edges.bad(Edges.NEW, "given(0, 0, 0) without HILLS", x -> x.given(0, 0, 0));
    }

    /** What is found of notes by each of the three calls. */
    private void find(int promise, int finding, int... notes) {
        String call = "notes " + java.util.Arrays.toString(notes);
        if (promise == 31) {
            edges.finds(finding, () -> noted(Check.ALL_KINDS, notes), call, x -> x.from(0));
        } else if (promise == 32) {
            edges.finds(finding, () -> noted(Check.ALL_KINDS, notes), call, x -> x.kinds(5, 0));
        } else {
            edges.finds(finding, () -> noted(Check.ALL_KINDS, notes), call, x -> x.given(11, 5, 0));
        }
    }

    private void missing() {
        for (int promise = 31; promise <= 33; promise++) {
            edges.of(promise, "NOTHING");
            for (int r = 0; r < 5; r++) {
                int it = r;
                int by = promise;
                edges.finds(Edges.NOTHING, Edges.camp(Check.ALL_KINDS), "ROW " + r,
                        x -> by == 31 ? x.from(it) : by == 32 ? x.kinds(0, it) : x.given(0, 0, it));
            }
        }
    }

    private void wrongSizes() {
        for (int promise = 31; promise <= 33; promise++) {
            edges.of(promise, "SIZE");
            for (int size = 0; size <= 40; size++) {
                if (size % 2 == 1 || size > 16) {
                    find(promise, Edges.SIZE, new int[size]);
                } else {
                    HillSeer x = noted(Check.ALL_KINDS, new int[size]);
                    int answer = promise == 31 ? x.from(0) : promise == 32 ? x.kinds(0, 0) : x.given(0, 0, 0);
                    edges.due("notes of " + size + " places are right", answer >= 0 ? 1 : 0, 1);
                }
            }
            find(promise, Edges.SIZE, 0, 1, -1);
            find(promise, Edges.SIZE, 9, 9, 9);
        }
    }

    private void wrongNumbers() {
        for (int promise = 31; promise <= 33; promise++) {
            edges.of(promise, "UNLIKE.");
            for (int day : new int[] {Edges.LEAST, -1, 100, Edges.MOST}) {
                find(promise, Edges.UNLIKE, day, 0);
                find(promise, Edges.UNLIKE, 0, 0, 0, 1, 0, 2, 0, 0, 0, 0, 0, 0, 0, 0, day, 0);
            }
            for (int word : new int[] {Edges.LEAST, -1, 3, Edges.MOST}) {
                find(promise, Edges.UNLIKE, 0, word);
                find(promise, Edges.UNLIKE, 0, 0, 0, 1, 0, 2, 0, 0, 0, 0, 0, 0, 0, 0, 0, word);
            }
        }
    }
}
