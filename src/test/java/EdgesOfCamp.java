/** Promises 10 to 14, sentence by sentence: FAULTS, CAMPS, HILLS, TENTS, what a HILL tells as one of its KIND. */
final class EdgesOfCamp {
    private static final int[] NO_FACTS_OF_HILLS = {Edges.LEAST, -1, 6, Edges.MOST};
    private static final int[] NO_FACTS_OF_TENTS = {Edges.LEAST, -1, 3, Edges.MOST};
    private final Edges edges;

    EdgesOfCamp(Edges edges) {
        this.edges = edges;
    }

    void all() {
        fault();
        camp();
        campAnew();
        campRefused();
        hill();
        hillNow();
        tent();
        tentRefused();
        markOfBare();
        markOfWooded();
        markOfFoggy();
        markOfHighAndFar();
        markRefused();
    }

    private static HillSeer texts() {
        HillSeer x = Edges.camped(Check.ALL_KINDS);
        Check.write(x, 1, "t000000000000");
        x.text(2, 0);
        return x;
    }

    private void fault() {
        edges.of(10, "A FAULT of a TEXT; NONE: there is none.");
        for (int t = 0; t < 4; t++) {
            HillSeer x = new HillSeer();
            x.text(t, 0);
            edges.due("fault(" + t + ") of nothing", x.fault(t), 0);
            Check.write(x, t, " ".repeat(43) + "t000000000000h119");
            edges.due("fault(" + t + ") of 60 bytes", x.fault(t), Edges.NONE);
            edges.due("count(0): aside", x.count(0), 0);
            x.put(t, 59, '0');
            edges.due("fault(" + t + ") of the last byte", x.fault(t), 59);
            Check.write(x, t, " ".repeat(44) + "t000000000000h11");
            edges.due("fault(" + t + ") of an end too early", x.fault(t), 60);
            edges.due("finding(): a FAULT is none", x.finding(), 0);
        }
        edges.of(10, "BAD");
        for (int t : Edges.NO_TEXTS) {
            edges.bad(EdgesOfCamp::texts, "fault(" + t + ")", x -> x.fault(t));
        }
        edges.of(10, "NOTHING");
        edges.finds(Edges.NOTHING, EdgesOfCamp::texts, "fault(3)", x -> x.fault(3));
        for (int t = 0; t < 4; t++) {
            int it = t;
            edges.finds(Edges.NOTHING, Edges.NEW, "fault(" + t + ")", x -> x.fault(it));
        }
    }

    private void camp() {
        edges.of(11, "A CAMP by a TEXT");
        for (int t = 0; t < 4; t++) {
            HillSeer x = new HillSeer();
            Check.write(x, t, "t044444444449 h111 ");
            edges.due("camp(" + t + ")", x.camp(t), 1);
            edges.tells("tent(0, 0)", x, x.tent(0, 0), -4);
            edges.tells("tent(11, 0)", x, x.tent(11, 0), 5);
            x.put(t, 1, '9');
            x.put(t, 14, 'r');
            edges.tells("tent(0, 0) behind another byte of its TEXT", x, x.tent(0, 0), -4);
            edges.tells("hill(0, 0) behind another byte of its TEXT", x, x.hill(0, 0), 0);
            x.text(t, 0);
            edges.tells("tent(0, 0) behind its TEXT", x, x.tent(0, 0), -4);
        }
        edges.of(11, "how many HILLS.");
        for (int many = 1; many <= 6; many++) {
            HillSeer x = new HillSeer();
            Check.write(x, 0, "t444444444444" + "h001".repeat(many));
            edges.due("camp(0) of " + many, x.camp(0), many);
            edges.due("count(0) of " + many, x.count(0), many);
            edges.due("hill(" + many + ", 0) of " + many, x.hill(many, 0), Edges.BAD);
            edges.due("hill(" + (many - 1) + ", 0) of " + many, x.hill(many - 1, 0), 1);
        }
    }

    private void campAnew() {
        edges.of(11, "(anew: DAY 0, no GOLD, no DEEDS; kept CAMPS go)");
        HillSeer x = Check.camped(Check.ALL_KINDS);
        x.lots(20, 3);
        for (int k = 0; k <= 2; k++) {
            x.keep(k);
        }
        x.speak(0);
        x.day();
        edges.due("camp(0) again", x.camp(0), 6);
        HillSeer fresh = Check.camped(Check.ALL_KINDS);
        edges.due("digest() as of a new one", x.digest(), fresh.digest());
        for (int what = 1; what <= 5; what++) {
            edges.due("count(" + what + ")", x.count(what), 0);
        }
        edges.due("count(10)", x.count(10), 0);
        for (int k = 0; k <= 2; k++) {
            edges.due("on(" + k + ")", x.on(k), Edges.FINDING);
        }
        edges.due("undo(0)", x.undo(0), 0);
        edges.due("undo(1)", x.undo(1), Edges.BAD);
        Check.write(x, 1, "t444444444445h119");
        edges.due("camp(1) of one HILL", x.camp(1), 1);
        edges.due("hill(1, 0)", x.hill(1, 0), Edges.BAD);
        edges.due("count(6)", x.count(6), 0);
        edges.due("count(7)", x.count(7), 0);
        edges.due("undo(0) of it", x.undo(0), 0);
        edges.tells("tent(0, 0)", x, x.tent(0, 0), 0);
    }

    private void campRefused() {
        edges.of(11, "BAD");
        for (int t : Edges.NO_TEXTS) {
            edges.bad(EdgesOfCamp::texts, "camp(" + t + ")", x -> x.camp(t));
        }
        edges.of(11, "NOTHING");
        edges.finds(Edges.NOTHING, EdgesOfCamp::texts, "camp(3)", x -> x.camp(3));
        edges.of(11, "STATE: a FAULT.");
        edges.state(EdgesOfCamp::texts, "camp(1) without HILLS in its TEXT", x -> x.camp(1));
        edges.state(EdgesOfCamp::texts, "camp(2) of nothing", x -> x.camp(2));
        HillSeer x = texts();
        x.day();
        x.keep(1);
        x.day();
        edges.due("camp(1)", x.camp(1), Edges.STATE);
        edges.due("count(2) stays", x.count(2), 2);
        edges.due("on(1) stays", x.on(1), 1);
        Check.write(x, 1, "t000000000000h001x");
        long before = x.digest();
        edges.due("camp(1) with a FAULT at its end", x.camp(1), Edges.STATE);
        edges.due("digest() stays", x.digest(), before);
        edges.of(11, "(STATE behind NOTHING.)");
        for (int t = 0; t < 4; t++) {
            int it = t;
            edges.finds(Edges.NOTHING, Edges.NEW, "camp(" + t + ")", y -> y.camp(it));
        }
    }

    private void hill() {
        edges.of(12, "Of a HILL: 0 the KIND, 1 its first TENT, 2 how BROAD it is, 3 TENTS SEEN now (bits), 4 the sum"
                + " of its WORD now, 5 the WORD (0, 1, 2), told by asked(): 1.");
        int[][] facts = {
            {0, 2, 4, 60, -6, 2}, {1, 9, 5, 2560, 3, 1}, {2, 1, 7, 210, 7, 1},
            {3, 10, 3, 3072, 1, 1}, {4, 8, 4, 1280, -2, 2}, {5, 6, 9, 3008, 3, 1}};
        HillSeer x = Check.camped(Check.ALL_KINDS);
        for (int h = 0; h < 6; h++) {
            for (int what = 0; what < 6; what++) {
                edges.tells("hill(" + h + ", " + what + ")", x, x.hill(h, what), facts[h][what]);
            }
        }
        HillSeer silent = Check.camped("t354444444444h002");
        edges.tells("hill(0, 5) of SILENCE", silent, silent.hill(0, 5), 0);
        edges.of(12, "BAD.");
        for (int h : Edges.noHills(6)) {
            edges.bad(Edges.camp(Check.ALL_KINDS), "hill(" + h + ", 0)", y -> y.hill(h, 0));
        }
        for (int h : Edges.noHills(1)) {
            edges.bad(Edges.camp("t444444444444h001"), "hill(" + h + ", 0) of one", y -> y.hill(h, 0));
        }
        for (int what : NO_FACTS_OF_HILLS) {
            edges.bad(Edges.camp(Check.ALL_KINDS), "hill(0, " + what + ")", y -> y.hill(0, what));
        }
        edges.bad(Edges.NEW, "hill(0, 0) without HILLS", y -> y.hill(0, 0));
    }

    private void hillNow() {
        edges.of(12, "3 TENTS SEEN now (bits), 4 the sum of its WORD now,");
        HillSeer x = Check.camped("t944444444443f002w002");
        edges.tells("hill(0, 3) on DAY 0", x, x.hill(0, 3), 3);
        x.change(0, 1);
        edges.tells("hill(0, 4) on DAY 0", x, x.hill(0, 4), 5);
        x.day();
        edges.tells("hill(0, 3) on DAY 1", x, x.hill(0, 3), 1);
        edges.tells("hill(0, 4) on DAY 1", x, x.hill(0, 4), 0);
        edges.tells("hill(0, 5) on DAY 1", x, x.hill(0, 5), 0);
        x.day();
        edges.tells("hill(0, 5) on DAY 2", x, x.hill(0, 5), 1);
        edges.tells("hill(1, 3)", x, x.hill(1, 3), 3);
        x.change(0, 11);
        edges.tells("hill(1, 3) behind a CHANGE", x, x.hill(1, 3), 2);
        edges.tells("hill(0, 4) behind a CHANGE", x, x.hill(0, 4), 4);
        x.undo(3);
        edges.tells("hill(1, 3) undone", x, x.hill(1, 3), 3);
    }

    private void tent() {
        edges.of(13, "Of a TENT (0 .. 11): 0 what is GIVEN, 1 whether it is BLESSED (1), CURSED (2), or neither (0),"
                + " 2 HILLS (bits) from which it is SEEN now, told by asked(): 1.");
        HillSeer x = Check.camped("t944444444440h001h001f112f112f112h112");
        edges.tells("tent(0, 0)", x, x.tent(0, 0), 5);
        edges.tells("tent(11, 0)", x, x.tent(11, 0), -4);
        edges.tells("tent(0, 2)", x, x.tent(0, 2), 3);
        edges.tells("tent(5, 2)", x, x.tent(5, 2), 0);
        edges.tells("tent(11, 2)", x, x.tent(11, 2), 60);
        for (int i = 0; i < 12; i++) {
            edges.tells("tent(" + i + ", 1) at first", x, x.tent(i, 1), 0);
        }
        x.speak(0);
        x.speak(5);
        for (int i = 0; i < 12; i++) {
            edges.tells("tent(" + i + ", 1)", x, x.tent(i, 1), i == 0 ? 1 : i == 11 ? 2 : 0);
        }
        HillSeer fog = Check.camped("t444444444444f001h001f002");
        edges.tells("tent(0, 2) on DAY 0", fog, fog.tent(0, 2), 7);
        edges.tells("tent(1, 2) on DAY 0", fog, fog.tent(1, 2), 4);
        fog.day();
        edges.tells("tent(0, 2) on DAY 1", fog, fog.tent(0, 2), 6);
        edges.tells("tent(1, 2) on DAY 1", fog, fog.tent(1, 2), 0);
    }

    private void tentRefused() {
        edges.of(13, "BAD");
        for (int i : Edges.NO_TENTS) {
            for (int what = 0; what <= 2; what++) {
                int it = what;
                edges.bad(Edges.camp(Check.ALL_KINDS), "tent(" + i + ", " + what + ")", x -> x.tent(i, it));
                edges.bad(Edges.NEW, "tent(" + i + ", " + what + ") without HILLS", x -> x.tent(i, it));
            }
        }
        for (int what : NO_FACTS_OF_TENTS) {
            edges.bad(Edges.camp(Check.ALL_KINDS), "tent(0, " + what + ")", x -> x.tent(0, what));
            edges.bad(Edges.NEW, "tent(0, " + what + ") without HILLS", x -> x.tent(0, what));
        }
        edges.of(13, "STATE: no HILLS.");
        for (int i = 0; i < 12; i++) {
            for (int what = 0; what <= 2; what++) {
                int tent = i;
                int it = what;
                edges.state(Edges.NEW, "tent(" + i + ", " + what + ")", x -> x.tent(tent, it));
            }
        }
    }

    private void mark(String text, int kind, int want) {
        edges.due("mark(0, " + kind + ") of " + text, Check.camped(text).mark(0, kind), want);
    }

    private void markOfBare() {
        edges.of(14, "What a HILL that IS of a KIND tells: a BARE one (HIGH, too) how many TENTS it passes by within"
                + " its view,");
        mark("t000000000000b001", 1, 0);
        mark("t000000000000b002", 1, 1);
        mark("t000000000000b008", 1, 4);
        mark("t000000000000b009", 1, 4);
        mark("t000000000000b119", 1, 0);
        mark("t000000000000b109", 1, 1);
        mark("t000000000000b039", 1, 4);
        mark("t000000000000b049", 1, 4);
        mark("t000000000000i001", 1, 1);
        mark("t000000000000i005", 1, 5);
        mark("t000000000000i006", 1, 6);
        mark("t000000000000i009", 1, 6);
        mark("t000000000000i111", 1, 0);
        mark("t000000000000i119", 1, 0);
        mark("t000000000000i101", 1, 1);
        mark("t000000000000i099", 1, 1);
    }

    private void markOfWooded() {
        edges.of(14, "a WOODED one (FAR, too) how many TENTS of its view it does not SEE now,");
        for (String kind : new String[] {"w", "r"}) {
            mark("t000000000000" + kind + "009", 2, 9);
            mark("t444444444444" + kind + "009", 2, 0);
            mark("t333333333333" + kind + "001", 2, 1);
            mark("t333333333333" + kind + "119", 2, 1);
            mark("t333333333333" + kind + "109", 2, 2);
            mark("t343333333334" + kind + "003", 2, 2);
            mark("t343333333334" + kind + "109", 2, 1);
            HillSeer x = Check.camped("t344444444444" + kind + "001");
            edges.due("mark(0, 2) of " + kind, x.mark(0, 2), 1);
            x.day();
            edges.due("mark(0, 2) of " + kind + " on DAY 1", x.mark(0, 2), 1);
            x.change(0, 11);
            edges.due("mark(0, 2) of " + kind + " behind a CHANGE", x.mark(0, 2), 0);
        }
    }

    private void markOfFoggy() {
        edges.of(14, "a FOGGY one how many TENTS are SEEN from it on odd DAYS,");
        for (int broad = 1; broad <= 9; broad++) {
            mark("t000000000000f00" + broad, 3, broad / 2);
            mark("t999999999999f11" + broad, 3, broad == 1 ? 0 : 1);
            mark("t000000000000f10" + broad, 3, broad == 1 ? 0 : broad <= 3 ? 1 : 2);
        }
        HillSeer x = Check.camped("t444444444444f005");
        for (int day = 0; day <= 3; day++) {
            edges.due("mark(0, 3) on DAY " + day, x.mark(0, 3), 2);
            x.day();
        }
    }

    private void markOfHighAndFar() {
        edges.of(14, "a HIGH one how many TENTS of its view would be beyond TENT 11,");
        mark("t000000000000i001", 4, 0);
        mark("t000000000000i006", 4, 0);
        mark("t000000000000i007", 4, 2);
        mark("t000000000000i009", 4, 6);
        mark("t000000000000i016", 4, 1);
        mark("t000000000000i101", 4, 0);
        mark("t000000000000i111", 4, 1);
        mark("t000000000000i119", 4, 17);
        edges.of(14, "a FAR one by how much the sum of its WORD is less than that of a WOODED one there.");
        int[] less = {0, 0, 0, 0, 0, 1, 1, 2, 2, 3};
        for (int figure = 0; figure <= 9; figure++) {
            mark("t" + figure + "44444444444r001", 5, less[figure]);
            mark("t44444444444" + figure + "r119", 5, less[figure]);
        }
        mark("t555555555555r009", 5, 9);
        mark("t999999999999r009", 5, 27);
        mark("t090909090909r009", 5, 12);
    }

    private void markRefused() {
        edges.of(14, "BAD: also KIND 0");
        for (int h = 0; h < 6; h++) {
            int it = h;
            edges.bad(Edges.camp(Check.ALL_KINDS), "mark(" + h + ", 0)", x -> x.mark(it, 0));
        }
        for (int kind : new int[] {Edges.LEAST, -1, 6, Edges.MOST}) {
            edges.bad(Edges.camp(Check.ALL_KINDS), "mark(0, " + kind + ")", x -> x.mark(0, kind));
        }
        for (int h : Edges.noHills(6)) {
            edges.bad(Edges.camp(Check.ALL_KINDS), "mark(" + h + ", 1)", x -> x.mark(h, 1));
        }
        edges.bad(Edges.NEW, "mark(0, 1) without HILLS", x -> x.mark(0, 1));
        edges.of(14, "UNLIKE.");
        for (int h = 0; h < 6; h++) {
            for (int kind = 1; kind <= 5; kind++) {
                int hill = h;
                int it = kind;
                boolean is = h == kind || h == 4 && kind == 1 || h == 5 && kind == 2;
                if (is) {
                    edges.due("mark(" + h + ", " + kind + ") is told",
                            Check.camped(Check.ALL_KINDS).mark(h, kind) >= 0 ? 1 : 0, 1);
                } else {
                    edges.finds(Edges.UNLIKE, Edges.camp(Check.ALL_KINDS), "mark(" + h + ", " + kind + ")",
                            x -> x.mark(hill, it));
                }
            }
        }
    }
}
