/** Promises 21 to 24, sentence by sentence: what is SEEN. */
final class EdgesOfSeen {
    private final Edges edges;

    EdgesOfSeen(Edges edges) {
        this.edges = edges;
    }

    void all() {
        only();
        hidden();
        fewest();
        waits();
        waitsForNone();
    }

    private void only() {
        edges.of(21, "TENTS (bits) SEEN from a HILL that are not from another one; how many by asked().");
        HillSeer x = Check.camped("t444444444443h009h001h039w111f111h111");
        int[][] sets = {{0, 1, 510, 8}, {1, 0, 0, 0}, {0, 2, 7, 3}, {2, 0, 3584, 3}, {0, 3, 511, 9}, {3, 0, 0, 0},
            {5, 3, 2048, 1}, {5, 4, 0, 0}, {2, 5, 2040, 8}};
        for (int[] set : sets) {
            edges.due("only(" + set[0] + ", " + set[1] + ")", x.only(set[0], set[1]), set[2]);
            edges.due("asked()", x.asked(), set[3]);
        }
        x.day();
        edges.due("only(5, 4) on an odd DAY", x.only(5, 4), 2048);
        edges.due("asked()", x.asked(), 1);
        edges.of(21, "BAD: also the same.");
        for (int h : Edges.noHills(6)) {
            edges.bad(Edges.camp(Check.ALL_KINDS), "only(" + h + ", 0)", y -> y.only(h, 0));
            edges.bad(Edges.camp(Check.ALL_KINDS), "only(0, " + h + ")", y -> y.only(0, h));
        }
        for (int h = 0; h < 6; h++) {
            int it = h;
            edges.bad(Edges.camp(Check.ALL_KINDS), "only(" + h + ", " + h + ")", y -> y.only(it, it));
        }
        edges.bad(Edges.camp("t444444444444h001"), "only(0, 1) of one", y -> y.only(0, 1));
        edges.bad(Edges.NEW, "only(0, 1) without HILLS", y -> y.only(0, 1));
    }

    private void hidden() {
        edges.of(22, "TENTS (bits) SEEN from no HILL now.");
        edges.due("hidden() of none", Check.camped("t444444444444h009h093").hidden(), 0);
        edges.due("hidden() of the last", Check.camped("t444444444444h009h092").hidden(), 2048);
        edges.due("hidden() of the first", Check.camped("t444444444444h013h039").hidden(), 1);
        edges.due("hidden() of all", Check.camped("t333333333333w009r039").hidden(), 4095);
        edges.due("hidden() of every second", Check.camped("t444444444444i009").hidden(), 2730);
        HillSeer x = Check.camped("t444444444443f001w111");
        edges.due("hidden() on DAY 0", x.hidden(), 4094);
        x.day();
        edges.due("hidden() on DAY 1", x.hidden(), 4095);
        x.change(11, 1);
        edges.due("hidden() behind a CHANGE", x.hidden(), 2047);
        edges.of(22, "STATE: no HILLS.");
        edges.state(Edges.NEW, "hidden()", HillSeer::hidden);
    }

    private void fewest(String text, int many, int which) {
        HillSeer x = Check.camped(text);
        edges.due("fewest() of " + text, x.fewest(), many);
        edges.due("asked() of " + text, x.asked(), which);
    }

    private void fewest() {
        edges.of(23, "The fewest HILLS from which all TENTS are SEEN that are from any;");
        fewest("t444444444444h001", 1, 1);
        fewest("t444444444444h001h009h092h111", 3, 14);
        fewest("t444444444444h001h011h021h031h041h051", 6, 63);
        fewest("t444444444444h001h001h001h001h001h006", 1, 32);
        fewest("t333333333333w009r039", 0, 0);
        fewest("t333333333333w009h001", 1, 2);
        edges.of(23, "which by asked() (bits; the least number).");
        fewest("t444444444444h002h002h002", 1, 1);
        fewest("t444444444444h001h002h002", 1, 2);
        fewest("t444444444444b003h002h022b013", 2, 6);
        fewest("t444444444444h002b003b013h022", 2, 6);
        HillSeer x = Check.camped("t444444444444f001h011");
        edges.due("fewest() on DAY 0", x.fewest(), 2);
        edges.due("asked()", x.asked(), 3);
        x.day();
        edges.due("fewest() on DAY 1", x.fewest(), 1);
        edges.due("asked()", x.asked(), 2);
        edges.of(23, "STATE: no HILLS.");
        edges.state(Edges.NEW, "fewest()", HillSeer::fewest);
    }

    private static String alone(int tent, int figure) {
        StringBuilder givens = new StringBuilder("t444444444444");
        givens.setCharAt(1 + tent, (char) ('0' + figure));
        return givens.toString();
    }

    private void waits() {
        edges.of(24, "In how many DAYS (0 .. 11) a WORD (0, 1, 2) would be said from a HILL first, if each TENT went"
                + " one place on each DAY (the last one to the first place).");
        for (int tent = 0; tent < 12; tent++) {
            for (int first = 0; first < 12; first++) {
                String hill = "h" + first / 10 + first % 10 + "1";
                int want = Math.floorMod(first - tent, 12);
                HillSeer x = Check.camped(alone(tent, 9) + hill);
                edges.due("waits(0, 1) of TENT " + tent + ", " + hill, x.waits(0, 1), want);
                edges.due("waits(0, 0) of TENT " + tent + ", " + hill, x.waits(0, 0), first == tent ? 1 : 0);
                HillSeer y = Check.camped(alone(tent, 0) + hill);
                edges.due("waits(0, 2) of TENT " + tent + ", " + hill, y.waits(0, 2), want);
            }
        }
        HillSeer fog = Check.camped("t944444444444f011f021");
        edges.due("waits(0, 1) of a FOGGY one, which sees nothing on odd DAYS", fog.waits(0, 1), Edges.NONE);
        edges.due("waits(1, 1) of a FOGGY one on an even DAY", fog.waits(1, 1), 2);
        fog.day();
        edges.due("waits(0, 1) from an odd DAY on", fog.waits(0, 1), 1);
        edges.due("waits(1, 1) from an odd DAY on", fog.waits(1, 1), Edges.NONE);
        HillSeer x = Check.camped("t444444444494h112");
        edges.due("waits(0, 1) of 10", x.waits(0, 1), 1);
        x.change(10, 0);
        edges.due("waits(0, 1) of 0", x.waits(0, 1), 11);
        edges.due("count(1): aside", x.count(1), 0);
    }

    private void waitsForNone() {
        edges.of(24, "NONE: on none of these.");
        HillSeer x = Check.camped("t444444444444h009");
        edges.due("waits(0, 1) of SILENCE", x.waits(0, 1), Edges.NONE);
        edges.due("waits(0, 2) of SILENCE", x.waits(0, 2), Edges.NONE);
        edges.due("finding(): NONE is no FINDING", x.finding(), 0);
        HillSeer y = Check.camped("t999999999999h001w009");
        edges.due("waits(0, 0) of BLESSINGS", y.waits(0, 0), Edges.NONE);
        edges.due("waits(0, 2) of BLESSINGS", y.waits(0, 2), Edges.NONE);
        edges.due("waits(1, 2) of a WOODED one", y.waits(1, 2), Edges.NONE);
        edges.of(24, "BAD.");
        for (int h : Edges.noHills(3)) {
            edges.bad(Edges.camp(Check.THREE_HILLS), "waits(" + h + ", 0)", z -> z.waits(h, 0));
        }
        for (int word : new int[] {Edges.LEAST, -1, 3, Edges.MOST}) {
            edges.bad(Edges.camp(Check.THREE_HILLS), "waits(0, " + word + ")", z -> z.waits(0, word));
        }
        edges.bad(Edges.NEW, "waits(0, 0) without HILLS", z -> z.waits(0, 0));
    }
}
