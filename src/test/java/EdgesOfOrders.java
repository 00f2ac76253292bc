/** Promises 25 to 28, sentence by sentence: orders of HILLS. */
final class EdgesOfOrders {
    /** A CURSE over TENTS 0 .. 8 from the last HILL; each other one BLESSES one of them. */
    private static final String LAST_CURSES = "t555550000444h001h011h021h031h041h009";
    /** A BLESSING over TENTS 0 .. 8 from the last HILL; each other one CURSES one of them. */
    private static final String LAST_BLESSES = "t333339999444h001h011h021h031h041h009";
    private final Edges edges;

    EdgesOfOrders(Edges edges) {
        this.edges = edges;
    }

    void all() {
        curse();
        curseRefused();
        spare();
        orders();
        ordersRefused();
        rides();
        ridesRefused();
    }

    private void order(String when, HillSeer x, int r, int... hills) {
        for (int i = 0; i < hills.length; i++) {
            edges.tells(when + ", at(" + r + ", " + i + ")", x, x.at(r, i), hills[i]);
        }
        edges.due(when + ", at(" + r + ", " + hills.length + ")", x.at(r, hills.length), Edges.FINDING);
    }

    private void curse() {
        edges.of(25, "The most TENTS CURSED in all behind an order;");
        HillSeer last = Check.camped(LAST_CURSES);
        edges.due("curse(0) of the last one", last.curse(0), 9);
        edges.due("curse(0) of no CURSE", Check.camped("t999999999999h009h039").curse(0), 0);
        edges.due("curse(0) of all", Check.camped("t000000000000h009h039").curse(0), 12);
        HillSeer before = Check.camped("t033999999999h001h033");
        before.speak(0);
        before.change(0, 11);
        before.change(1, 0);
        edges.due("curse(0) with one of before", before.curse(0), 2);
        before.speak(0);
        edges.due("curse(0) with two of before", before.curse(0), 2);
        edges.due("count(2): aside", before.count(2), 4);
        edges.of(25, "the first such one (by numbers) comes to a ROW (anew).");
        order("the last one first", last, 0, 5, 0, 1, 2, 3, 4);
        HillSeer alike = Check.camped("t000000000000h009h009h009h009h009h009");
        alike.row(5, 40);
        edges.due("curse(5) of alike", alike.curse(5), 9);
        order("alike", alike, 5, 0, 1, 2, 3, 4, 5);
        HillSeer none = Check.camped("t999999999999h009h039h119");
        edges.due("curse(2) of no CURSE", none.curse(2), 0);
        order("no CURSE", none, 2, 0, 1, 2);
        last.speak(0);
        edges.due("curse(0) behind a BLESSING", last.curse(0), 8);
        order("behind a BLESSING", last, 0, 0, 5, 1, 2, 3, 4);
        HillSeer one = Check.camped("t444444444444h001");
        for (int r = 0; r < 6; r++) {
            edges.due("count(8)", one.count(8), r);
            edges.due("curse(" + r + ") of one", one.curse(r), 0);
            order("one", one, r, 0);
        }
        HillSeer three = Check.camped(Check.THREE_HILLS);
        Check.fill(three, 1, 9, 9, 9, 9, 9);
        edges.due("curse(1) of three", three.curse(1), 3);
        order("three", three, 1, 0, 1, 2);
    }

    private void curseRefused() {
        edges.of(25, "BAD");
        for (int r : Edges.NO_ROWS) {
            edges.bad(Edges.camp(Check.ALL_KINDS), "curse(" + r + ")", x -> x.curse(r));
            edges.bad(Edges.NEW, "curse(" + r + ") without HILLS", x -> x.curse(r));
        }
        edges.of(25, "STATE: no HILLS.");
        for (int r = 0; r < 6; r++) {
            int it = r;
            edges.state(Edges.NEW, "curse(" + r + ")", x -> x.curse(it));
        }
    }

    private void spare() {
        edges.of(26, "The fewest so.");
        HillSeer last = Check.camped(LAST_BLESSES);
        edges.due("spare(0) of the last one", last.spare(0), 0);
        order("the last one first", last, 0, 5, 0, 1, 2, 3, 4);
        last.speak(0);
        edges.due("spare(0) behind a CURSE", last.spare(0), 1);
        order("behind a CURSE", last, 0, 0, 5, 1, 2, 3, 4);
        HillSeer all = Check.camped("t000000000000h009h039");
        edges.due("spare(0) of all", all.spare(0), 12);
        order("all", all, 0, 0, 1);
        HillSeer alike = Check.camped("t000000000000h009h009h009h009h009h009");
        alike.row(5, 40);
        edges.due("spare(5) of alike", alike.spare(5), 9);
        order("alike", alike, 5, 0, 1, 2, 3, 4, 5);
        HillSeer three = Check.camped(Check.THREE_HILLS);
        edges.due("spare(3) of three", three.spare(3), 2);
        order("three", three, 3, 1, 2, 0);
        three.speak(0);
        edges.due("spare(3) with three of before", three.spare(3), 3);
        order("three of before", three, 3, 0, 1, 2);
        edges.due("count(2): aside", three.count(2), 1);
        edges.of(26, "BAD");
        for (int r : Edges.NO_ROWS) {
            edges.bad(Edges.camp(Check.ALL_KINDS), "spare(" + r + ")", x -> x.spare(r));
            edges.bad(Edges.NEW, "spare(" + r + ") without HILLS", x -> x.spare(r));
        }
        edges.of(26, "STATE.");
        for (int r = 0; r < 6; r++) {
            int it = r;
            edges.state(Edges.NEW, "spare(" + r + ")", x -> x.spare(it));
        }
    }

    private void orders(HillSeer x, int n, int many, int tents) {
        edges.tells("orders(" + n + ")", x, x.orders(n), tents);
        edges.parts("orders(" + n + ")", x, many, 1);
    }

    private void orders() {
        edges.of(27, "How many orders there are behind which just n (0 .. 12) TENTS are CURSED, told by upper()"
                + " (lower() is 1);");
        HillSeer last = Check.camped(LAST_CURSES);
        // So many of the five BLESSINGS come ahead of the CURSE: each number of them by 120 orders.
        for (int n = 0; n <= 12; n++) {
            last.orders(n);
            edges.parts("orders(" + n + ")", last, n >= 4 && n <= 9 ? 120 : 0, 1);
        }
        HillSeer alike = Check.camped("t000000000000h009h009h009h009h039h039");
        orders(alike, 12, 720, 4095);
        orders(alike, 11, 0, 0);
        HillSeer blessed = Check.camped("t999999999999h009");
        orders(blessed, 0, 1, 0);
        edges.of(27, "TENTS (bits) that are by all of these by asked() (0: there are none): 1.");
        orders(last, 9, 120, 511);
        orders(last, 4, 120, 480);
        orders(last, 8, 120, 480);
        orders(last, 3, 0, 0);
        orders(last, 12, 0, 0);
        HillSeer three = Check.camped(Check.THREE_HILLS);
        orders(three, 3, 3, 7);
        orders(three, 2, 3, 3);
        orders(three, 0, 0, 0);
        orders(Check.camped("t344444444444h001"), 1, 1, 1);
        orders(Check.camped("t444444444443h111"), 1, 1, 2048);
        three.speak(0);
        orders(three, 3, 6, 7);
    }

    private void ordersRefused() {
        edges.of(27, "BAD");
        for (int n : new int[] {Edges.LEAST, -1, 13, Edges.MOST}) {
            edges.bad(Edges.camp(Check.ALL_KINDS), "orders(" + n + ")", x -> x.orders(n));
            edges.bad(Edges.NEW, "orders(" + n + ") without HILLS", x -> x.orders(n));
        }
        edges.of(27, "STATE.");
        for (int n = 0; n <= 12; n++) {
            int it = n;
            edges.state(Edges.NEW, "orders(" + n + ")", x -> x.orders(it));
        }
    }

    private void ride(String when, HillSeer x, int cursed, int gold, int... hills) {
        Check.fill(x, 0, hills);
        edges.due(when + ", rides(0)", x.rides(0), cursed);
        edges.due(when + ", asked()", x.asked(), gold);
    }

    private void rides() {
        edges.of(28, "By a ROW of HILLS (0 to 12, also again), spoken from one behind the other this DAY: how many"
                + " TENTS are CURSED then; GOLD then by asked().");
        HillSeer x = Check.camped(Check.THREE_HILLS);
        ride("none", x, 0, 0);
        ride("one", x, 3, 3, 0);
        ride("again", x, 3, 6, 0, 0);
        ride("a BLESSING ahead", x, 2, 3, 2, 0);
        ride("a BLESSING behind", x, 3, 3, 0, 2);
        ride("twelve", x, 3, 36, 0, 0, 0, 0, 0, 0, 0, 0, 0, 0, 0, 0);
        x.speak(0);
        ride("none, with those of before", x, 3, 3);
        ride("again, with those of before", x, 3, 6, 0);
        edges.due("count(2): aside", x.count(2), 1);
        edges.due("count(3): aside", x.count(3), 3);
        HillSeer fog = Check.camped("t344444444444f002h111");
        ride("on DAY 0", fog, 2, 4, 0, 1);
        fog.day();
        ride("on DAY 1", fog, 1, 4, 0, 1);
        HillSeer full = Edges.fullCamp(Check.THREE_HILLS).get();
        ride("of 40 DEEDS", full, 3, 6, 0, 0);
    }

    private static HillSeer ridden(String text, int... hills) {
        HillSeer x = text.isEmpty() ? new HillSeer() : Edges.camped(text);
        Check.fill(x, 0, hills);
        return x;
    }

    private void ridesRefused() {
        String three = Check.THREE_HILLS;
        edges.of(28, "BAD");
        for (int r : Edges.NO_ROWS) {
            edges.bad(Edges.camp(three), "rides(" + r + ")", x -> x.rides(r));
            edges.bad(Edges.NEW, "rides(" + r + ") without HILLS", x -> x.rides(r));
        }
        edges.of(28, "STATE: no HILLS");
        edges.state(() -> ridden(""), "rides(0) of none", x -> x.rides(0));
        edges.of(28, "NOTHING");
        for (int r = 0; r < 5; r++) {
            int it = r;
            edges.finds(Edges.NOTHING, Edges.camp(three), "rides(" + r + ")", x -> x.rides(it));
        }
        edges.of(28, "SIZE: more than 12");
        edges.finds(Edges.SIZE, () -> ridden(three, new int[13]), "rides(0) of 13", x -> x.rides(0));
        edges.finds(Edges.SIZE, () -> ridden(three, new int[40]), "rides(0) of 40", x -> x.rides(0));
        edges.of(28, "UNLIKE: no HILL.");
        for (int h : Edges.noHills(3)) {
            edges.finds(Edges.UNLIKE, () -> ridden(three, h), "rides(0) of " + h, x -> x.rides(0));
            edges.finds(Edges.UNLIKE, () -> ridden(three, 0, 0, 0, 0, 0, 0, 0, 0, 0, 0, 0, h),
                    "rides(0) of " + h + " at last", x -> x.rides(0));
        }
        edges.of(28, "(In this order.)");
        edges.state(Edges.NEW, "rides(0): STATE, not NOTHING", x -> x.rides(0));
        edges.state(() -> ridden("", new int[13]), "rides(0): STATE, not SIZE", x -> x.rides(0));
        edges.state(() -> ridden("", 9), "rides(0): STATE, not UNLIKE", x -> x.rides(0));
        edges.finds(Edges.SIZE, () -> ridden(three, 9, 9, 9, 9, 9, 9, 9, 9, 9, 9, 9, 9, 9),
                "rides(0): SIZE, not UNLIKE", x -> x.rides(0));
    }
}
