/** Promises 15 to 20, sentence by sentence: DEEDS, what is undone, CAMPS that are kept. */
final class EdgesOfDeeds {
    private final Edges edges;

    EdgesOfDeeds(Edges edges) {
        this.edges = edges;
    }

    void all() {
        speak();
        day();
        change();
        changeRefused();
        undo();
        undoRefused();
        keep();
        on();
        onRefused();
    }

    private void speak() {
        edges.of(15, "The seer SPEAKS: the WORD (0, 1, 2).");
        HillSeer x = Check.camped("t345444444440h001h011h021w111f112");
        edges.due("speak(0) of -1", x.speak(0), 2);
        edges.due("speak(1) of 0", x.speak(1), 0);
        edges.due("speak(2) of 1", x.speak(2), 1);
        edges.due("speak(3) of nothing SEEN", x.speak(3), 0);
        edges.due("speak(4) on DAY 0", x.speak(4), 2);
        x.day();
        edges.due("speak(0) again", x.speak(0), 2);
        edges.due("count(2)", x.count(2), 7);
        edges.due("count(3)", x.count(3), 3 + 1 + 0 + 1 + 3 + 3);
        edges.of(15, "BAD");
        for (int h : Edges.noHills(3)) {
            edges.bad(Edges.camp(Check.THREE_HILLS), "speak(" + h + ")", y -> y.speak(h));
        }
        edges.bad(Edges.NEW, "speak(0) without HILLS", y -> y.speak(0));
        edges.of(15, "FULL: 40 DEEDS.");
        HillSeer y = Check.camped(Check.THREE_HILLS);
        Edges.days(y, 39);
        edges.due("speak(0) as the 40th", y.speak(0), 2);
        edges.due("speak(0) as the 41st", y.speak(0), Edges.FULL);
        y.undo(39);
        edges.due("speak(0) as the 40th again", y.speak(0), 2);
        for (int h = 0; h < 3; h++) {
            int it = h;
            edges.full(Edges.fullCamp(Check.THREE_HILLS), "speak(" + h + ")", z -> z.speak(it));
        }
        edges.of(15, "(FULL last.)");
        for (int h : Edges.noHills(3)) {
            edges.bad(Edges.fullCamp(Check.THREE_HILLS), "speak(" + h + ")", z -> z.speak(h));
        }
    }

    private void day() {
        edges.of(16, "A DAY: the DAY then.");
        HillSeer x = Check.camped("t444444444444h001");
        for (int day = 1; day <= 40; day++) {
            edges.due("day()", x.day(), day);
            edges.due("count(1)", x.count(1), day);
        }
        edges.of(16, "STATE: no HILLS");
        edges.state(Edges.NEW, "day()", HillSeer::day);
        edges.of(16, "FULL.");
        edges.due("day() as the 41st", x.day(), Edges.FULL);
        edges.full(Edges.fullCamp(Check.ALL_KINDS), "day()", HillSeer::day);
        x.undo(39);
        edges.due("day() as the 40th again", x.day(), 40);
        edges.of(16, "(FULL last.)");
        HillSeer none = new HillSeer();
        for (int times = 0; times < 41; times++) {
            edges.due("day() without HILLS", none.day(), Edges.STATE);
        }
    }

    private void change() {
        edges.of(17, "Two TENTS change places: HILLS (bits) that BLESS then.");
        HillSeer x = Check.camped("t944444444440h001h002h009h112h102h111");
        edges.due("change(0, 11)", x.change(0, 11), 8 + 16 + 32);
        edges.due("change(11, 0)", x.change(11, 0), 7);
        edges.due("change(0, 1)", x.change(0, 1), 6);
        edges.due("change(9, 1)", x.change(9, 1), 0);
        edges.due("change(10, 9)", x.change(10, 9), 16);
        edges.due("change(11, 5)", x.change(11, 5), 16);
        edges.tells("tent(5, 0)", x, x.tent(5, 0), -4);
        edges.tells("tent(10, 0)", x, x.tent(10, 0), 5);
        edges.due("count(2)", x.count(2), 6);
        HillSeer all = Check.camped("t999999999999" + "h009".repeat(6));
        edges.due("change(0, 1) of like ones", all.change(0, 1), 63);
        HillSeer fog = Check.camped("t454444444444f002");
        edges.due("change(2, 3) on DAY 0", fog.change(2, 3), 1);
        fog.day();
        edges.due("change(2, 3) on DAY 1", fog.change(2, 3), 0);
    }

    private void changeRefused() {
        edges.of(17, "BAD: also the same");
        for (int i : Edges.NO_TENTS) {
            edges.bad(Edges.camp(Check.ALL_KINDS), "change(" + i + ", 0)", x -> x.change(i, 0));
            edges.bad(Edges.camp(Check.ALL_KINDS), "change(0, " + i + ")", x -> x.change(0, i));
            edges.bad(Edges.camp(Check.ALL_KINDS), "change(" + i + ", " + i + ")", x -> x.change(i, i));
            edges.bad(Edges.NEW, "change(" + i + ", 0) without HILLS", x -> x.change(i, 0));
        }
        for (int i = 0; i < 12; i++) {
            int it = i;
            edges.bad(Edges.camp(Check.ALL_KINDS), "change(" + i + ", " + i + ")", x -> x.change(it, it));
            edges.bad(Edges.NEW, "change(" + i + ", " + i + ") without HILLS", x -> x.change(it, it));
        }
        edges.of(17, "STATE: no HILLS");
        edges.state(Edges.NEW, "change(0, 11)", x -> x.change(0, 11));
        edges.state(Edges.NEW, "change(11, 0)", x -> x.change(11, 0));
        edges.of(17, "FULL.");
        HillSeer x = Check.camped(Check.THREE_HILLS);
        Edges.days(x, 39);
        edges.due("change(0, 1) as the 40th", x.change(0, 1) >= 0 ? 1 : 0, 1);
        edges.due("change(0, 1) as the 41st", x.change(0, 1), Edges.FULL);
        edges.full(Edges.fullCamp(Check.ALL_KINDS), "change(0, 11)", y -> y.change(0, 11));
        edges.of(17, "(FULL last.)");
        for (int i : Edges.NO_TENTS) {
            edges.bad(Edges.fullCamp(Check.ALL_KINDS), "change(" + i + ", 0)", y -> y.change(i, 0));
        }
        edges.bad(Edges.fullCamp(Check.ALL_KINDS), "change(4, 4)", y -> y.change(4, 4));
    }

    /** So many DEEDS, of all three sorts. */
    private static HillSeer done(int many) {
        HillSeer x = Check.camped(Check.ALL_KINDS);
        for (int n = 0; n < many; n++) {
            if (n % 3 == 0) {
                x.speak(n % 6);
            } else if (n % 3 == 1) {
                x.change(n % 12, (n + 5) % 12);
            } else {
                x.day();
            }
        }
        return x;
    }

    private void undo() {
        edges.of(18, "DEEDS from number n on are undone: how many.");
        for (int many : new int[] {0, 1, 2, 3, 7, 39, 40}) {
            for (int n = 0; n <= many; n++) {
                HillSeer x = done(many);
                edges.due("undo(" + n + ") of " + many, x.undo(n), many - n);
                edges.due("count(2)", x.count(2), n);
                edges.due("digest() as of " + n + " DEEDS", x.digest(), done(n).digest());
                edges.due("undo(" + n + ") again", x.undo(n), 0);
            }
        }
        edges.due("undo(0) without HILLS", new HillSeer().undo(0), 0);
        HillSeer x = done(7);
        x.undo(3);
        x.day();
        edges.due("undo(3) behind another DEED", x.undo(3), 1);
        edges.due("digest() as of 3 DEEDS", x.digest(), done(3).digest());
    }

    private void undoRefused() {
        edges.of(18, "BAD.");
        for (int many : new int[] {0, 1, 7, 40}) {
            for (int n : new int[] {Edges.LEAST, -1, many + 1, 41, Edges.MOST}) {
                edges.bad(() -> done(many), "undo(" + n + ") of " + many, x -> x.undo(n));
            }
        }
        for (int n : new int[] {Edges.LEAST, -1, 1, Edges.MOST}) {
            edges.bad(Edges.NEW, "undo(" + n + ") without HILLS", x -> x.undo(n));
        }
    }

    private void keep() {
        edges.of(19, "The CAMP (as it is, DEEDS) is kept in a place (0 .. 2): how many DEEDS.");
        HillSeer x = done(0);
        edges.due("keep(2) of none", x.keep(2), 0);
        x.speak(0);
        edges.due("keep(0) of one", x.keep(0), 1);
        Edges.days(x, 39);
        edges.due("keep(1) of 40", x.keep(1), 40);
        edges.due("count(10)", x.count(10), 3);
        long before = x.digest();
        edges.due("on(2)", x.on(2), 0);
        edges.due("count(2)", x.count(2), 0);
        edges.due("on(0)", x.on(0), 1);
        edges.due("count(5)", x.count(5), 60);
        edges.due("on(1)", x.on(1), 40);
        edges.due("digest()", x.digest(), before);
        x.undo(5);
        edges.due("keep(1) over it", x.keep(1), 5);
        edges.due("count(10) again", x.count(10), 3);
        edges.due("on(1) then", x.on(1), 5);
        edges.of(19, "BAD");
        for (int k : Edges.NO_KEEPING_PLACES) {
            edges.bad(Edges.camp(Check.ALL_KINDS), "keep(" + k + ")", y -> y.keep(k));
            edges.bad(Edges.NEW, "keep(" + k + ") without HILLS", y -> y.keep(k));
        }
        edges.of(19, "STATE: no HILLS.");
        for (int k = 0; k <= 2; k++) {
            int it = k;
            edges.state(Edges.NEW, "keep(" + k + ")", y -> y.keep(it));
        }
    }

    private void on() {
        edges.of(20, "The CAMP is as it was kept: how many DEEDS.");
        for (int many : new int[] {0, 1, 6, 40}) {
            for (int k = 0; k <= 2; k++) {
                HillSeer x = done(many);
                x.keep(k);
                long before = x.digest();
                x.undo(0);
                x.change(0, 11);
                x.speak(0);
                x.day();
                edges.due("on(" + k + ") of " + many, x.on(k), many);
                edges.due("digest()", x.digest(), before);
                x.undo(many / 2);
                x.change(1, 2);
                edges.due("on(" + k + ") again", x.on(k), many);
                edges.due("digest() again", x.digest(), before);
                HillSeer same = done(many);
                same.keep(k);
                same.undo(many / 2);
                edges.due("undo(" + many / 2 + ")", x.undo(many / 2), many - many / 2);
                edges.due("digest() undone", x.digest(), same.digest());
            }
        }
        HillSeer x = done(3);
        Check.fill(x, 0, 1);
        x.keep(0);
        x.lay(0, 0, 2);
        x.tear(5);
        x.on(0);
        edges.tells("at(0, 0): ROWS are no part of a CAMP", x, x.at(0, 0), 2);
    }

    private void onRefused() {
        edges.of(20, "BAD");
        for (int k : Edges.NO_KEEPING_PLACES) {
            edges.bad(Edges.camp(Check.ALL_KINDS), "on(" + k + ")", x -> x.on(k));
            edges.bad(Edges.NEW, "on(" + k + ") without HILLS", x -> x.on(k));
        }
        edges.of(20, "NOTHING.");
        for (int k = 0; k <= 2; k++) {
            int it = k;
            edges.finds(Edges.NOTHING, Edges.NEW, "on(" + k + ") without HILLS", x -> x.on(it));
            edges.finds(Edges.NOTHING, Edges.camp(Check.ALL_KINDS), "on(" + k + ")", x -> x.on(it));
            edges.finds(Edges.NOTHING, () -> keptElsewhere(it), "on(" + k + ") kept elsewhere", x -> x.on(it));
            edges.finds(Edges.NOTHING, EdgesOfDeeds::campedAnew, "on(" + k + ") anew", x -> x.on(it));
        }
    }

    private static HillSeer keptElsewhere(int place) {
        HillSeer x = done(4);
        for (int k = 0; k <= 2; k++) {
            if (k != place) {
                x.keep(k);
            }
        }
        return x;
    }

    private static HillSeer campedAnew() {
        HillSeer x = done(4);
        for (int k = 0; k <= 2; k++) {
            x.keep(k);
        }
        x.camp(0);
        return x;
    }
}
