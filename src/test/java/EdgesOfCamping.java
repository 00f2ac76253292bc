/** Promises 29 and 30, sentence by sentence: how to camp so that all HILLS BLESS, FEES. */
final class EdgesOfCamping {
    private final Edges edges;

    EdgesOfCamping(Edges edges) {
        this.edges = edges;
    }

    void all() {
        blessed();
        firstChange();
        fees();
        feesOfDays();
        feesRefused();
    }

    private void blessed(String text, int changes, int asked) {
        HillSeer x = Edges.camped(text);
        long before = x.digest();
        edges.due("blessed() of " + text, x.blessed(), changes);
        edges.due("asked() of " + text, x.asked(), asked);
        edges.due("digest() of " + text, x.digest(), before);
    }

    private void blessed() {
        edges.of(29, "The fewest CHANGES (0 .. 2) by which all HILLS BLESS;");
        blessed("t544444444444h001", 0, Edges.NONE);
        blessed("t454444444444h001", 1, 1);
        blessed("t445544444444h001h011", 2, 2);
        blessed("t555555555555" + "h009".repeat(6), 0, Edges.NONE);
        blessed("t554444444444h001h021", 1, 14);
        HillSeer full = Edges.fullCamp("t454444444444h001").get();
        edges.due("blessed() of 40 DEEDS", full.blessed(), 1);
        HillSeer fog = Check.camped("t454444444444f002");
        edges.due("blessed() on DAY 0", fog.blessed(), 0);
        fog.day();
        edges.due("blessed() on DAY 1", fog.blessed(), 1);
        edges.of(29, "NONE: not by 2.");
        blessed("t444555444444h001h011h021", Edges.NONE, 77);
        blessed("t444444444444h001", Edges.NONE, 77);
        blessed("t333333333333w009", Edges.NONE, 77);
        blessed("t544444444444h001h111", Edges.NONE, 77);
        edges.of(29, "STATE: no HILLS.");
        edges.state(Edges.NEW, "blessed()", HillSeer::blessed);
    }

    private void firstChange() {
        edges.of(29, "the first CHANGE of the first such row by asked() (12 times the lesser TENT, and the other;"
                + " NONE: none is needed).");
        blessed("t444444444454h111", 1, 131);
        blessed("t444444444445h001", 1, 11);
        blessed("t445444444445h001", 1, 2);
        blessed("t444444444455h091", 1, 118);
        blessed("t444444445544h101h111", 2, 106);
        blessed("t554444444444h101h111", 2, 10);
        blessed("t999999999999h001", 0, Edges.NONE);
    }

    private void fees(HillSeer x, int n, int[] fees, int most, int hill) {
        String call = "fees(" + n + ", " + fees[0] + ", " + fees[1] + ", " + fees[2] + ")";
        edges.due(call, x.fees(n, fees[0], fees[1], fees[2]), most);
        edges.due(call + " asked()", x.asked(), hill);
    }

    private void fees() {
        edges.of(30, "The most FEES in n (0 .. 9) DAYS, SPEAKING from one HILL on each (this one, too), the FEE for"
                + " SILENCE, a BLESSING, a CURSE as told (0 .. 9 each);");
        HillSeer x = Check.camped("t345444444444h001h011h021");
        fees(x, 0, new int[] {9, 9, 9}, 0, Edges.NONE);
        fees(x, 1, new int[] {0, 0, 9}, 9, 0);
        fees(x, 1, new int[] {9, 0, 0}, 9, 1);
        fees(x, 1, new int[] {0, 9, 0}, 9, 2);
        fees(x, 9, new int[] {9, 9, 9}, 81, 0);
        fees(x, 9, new int[] {0, 0, 0}, 0, 0);
        fees(x, 9, new int[] {1, 2, 3}, 27, 0);
        edges.due("count(1): aside", x.count(1), 0);
        edges.due("count(2): aside", x.count(2), 0);
        edges.due("count(3): aside", x.count(3), 0);
        HillSeer silent = Check.camped("t444444444444h009");
        fees(silent, 9, new int[] {0, 9, 9}, 0, 0);
        fees(silent, 9, new int[] {7, 9, 9}, 63, 0);
        HillSeer six = Check.camped("t444444444443h001h011h021h031h041h111");
        fees(six, 9, new int[] {1, 2, 3}, 27, 5);
        Check.write(six, 0, "t444444444443h001h011h021h031h041");
        six.camp(0);
        fees(six, 9, new int[] {1, 2, 3}, 9, 0);
        HillSeer full = Edges.fullCamp("t444444444444h009").get();
        fees(full, 2, new int[] {7, 9, 9}, 14, 0);
        edges.of(30, "the HILL of this DAY by asked() (the first; NONE: n is 0).");
        HillSeer alike = Check.camped("t355344444444h001h011h021h031");
        fees(alike, 1, new int[] {9, 5, 5}, 5, 0);
        fees(alike, 1, new int[] {9, 6, 5}, 6, 1);
        fees(alike, 9, new int[] {9, 5, 6}, 54, 0);
        fees(alike, 0, new int[] {0, 0, 0}, 0, Edges.NONE);
    }

    private void feesOfDays() {
        edges.of(30, "The most FEES in n (0 .. 9) DAYS, SPEAKING from one HILL on each (this one, too)");
        HillSeer fog = Check.camped("t439444444444f021f002h111");
        int[] fees = {1, 3, 9};
        // HILL 0 BLESSES on even DAYS; HILL 1 CURSES on these, else is still.
        int[] most = {0, 9, 10, 19, 20, 29, 30, 39, 40, 49};
        for (int n = 0; n <= 9; n++) {
            fees(fog, n, fees, most[n], n == 0 ? Edges.NONE : 1);
        }
        fog.day();
        int[] then = {0, 1, 10, 11, 20, 21, 30, 31, 40, 41};
        for (int n = 0; n <= 9; n++) {
            fees(fog, n, fees, then[n], n == 0 ? Edges.NONE : 0);
        }
    }

    private void feesRefused() {
        edges.of(30, "BAD");
        for (int wrong : new int[] {Edges.LEAST, -1, 10, Edges.MOST}) {
            edges.bad(Edges.camp(Check.ALL_KINDS), "fees(" + wrong + ", 0, 0, 0)", x -> x.fees(wrong, 0, 0, 0));
            edges.bad(Edges.camp(Check.ALL_KINDS), "fees(0, " + wrong + ", 0, 0)", x -> x.fees(0, wrong, 0, 0));
            edges.bad(Edges.camp(Check.ALL_KINDS), "fees(0, 0, " + wrong + ", 0)", x -> x.fees(0, 0, wrong, 0));
            edges.bad(Edges.camp(Check.ALL_KINDS), "fees(0, 0, 0, " + wrong + ")", x -> x.fees(0, 0, 0, wrong));
            edges.bad(Edges.NEW, "fees(" + wrong + ", 0, 0, 0) without HILLS", x -> x.fees(wrong, 0, 0, 0));
            edges.bad(Edges.NEW, "fees(1, 0, 0, " + wrong + ") without HILLS", x -> x.fees(1, 0, 0, wrong));
        }
        edges.of(30, "STATE: no HILLS.");
        edges.state(Edges.NEW, "fees(0, 0, 0, 0)", x -> x.fees(0, 0, 0, 0));
        edges.state(Edges.NEW, "fees(9, 9, 9, 9)", x -> x.fees(9, 9, 9, 9));
    }
}
