/** Promises 34 to 37, sentence by sentence: by turns, chances, LOTS. */
final class EdgesOfChances {
    private final Edges edges;

    EdgesOfChances(Edges edges) {
        this.edges = edges;
    }

    void all() {
        king();
        kingAndPeople();
        odds();
        mid();
        midRefused();
        lots();
        lotsOfSorts();
        lotsRefused();
    }

    private void king(String text, int... cursed) {
        HillSeer x = Edges.camped(text);
        String before = Edges.told(x);
        for (int n = 0; n <= 2; n++) {
            edges.due("king(" + n + ") of " + text, x.king(n), cursed[n]);
        }
        edges.due("king of " + text + " changes nothing", Edges.told(x).equals(before) ? 1 : 0, 1);
    }

    private void king() {
        edges.of(34, "n (0 .. 2) times: how many TENTS are CURSED then, the king wanting many, the people few.");
        king("t000000000000h009", 0, 9, 9);
        king("t999999999999h009", 0, 0, 0);
        king("t000000000000h001h033h009", 0, 9, 9);
        king("t000000000000h003h033", 0, 3, 5);
        HillSeer x = Check.camped("t000999999999h003h066");
        x.speak(0);
        edges.due("king(0) with three of before", x.king(0), 3);
        edges.due("king(1) with three of before", x.king(1), 3);
        HillSeer full = Edges.fullCamp("t000000000000h009").get();
        edges.due("king(2) of 40 DEEDS", full.king(2), 9);
        HillSeer fog = Check.camped("t000000000000f004");
        edges.due("king(1) on DAY 0", fog.king(1), 4);
        fog.day();
        edges.due("king(1) on DAY 1", fog.king(1), 2);
        edges.of(34, "BAD");
        for (int n : new int[] {Edges.LEAST, -1, 3, Edges.MOST}) {
            edges.bad(Edges.camp(Check.ALL_KINDS), "king(" + n + ")", y -> y.king(n));
            edges.bad(Edges.NEW, "king(" + n + ") without HILLS", y -> y.king(n));
        }
        edges.of(34, "STATE: no HILLS.");
        for (int n = 0; n <= 2; n++) {
            int it = n;
            edges.state(Edges.NEW, "king(" + n + ")", y -> y.king(it));
        }
    }

    private void kingAndPeople() {
        edges.of(34, "By turns the people let two TENTS that are side by side change places, or none, then the king"
                + " chooses a HILL, and the seer SPEAKS,");
        king("t344444444444h001", 0, 0, 0);
        king("t334444444444h001", 0, 1, 1);
        king("t335444444444h001", 0, 1, 1);
        king("t444444444443h111", 0, 0, 0);
        king("t444444444433h111", 0, 1, 1);
        king("t334444444433h001h111", 0, 1, 2);
        king("t433344444444h021", 0, 1, 1);
        king("t353353353353h001h031h061h091", 0, 1, 2);
        // Any CHANGE would bring a TENT with less into view: the people let none change places.
        king("t434343434343i006", 0, 0, 0);
        // TENTS 11 and 0 are not side by side: none with more comes into view.
        king("t333333333339h001", 0, 1, 1);
        // What would be said from a HILL that the king does not choose binds none.
        king("t990000000000h003h029", 0, 9, 9);
    }

    private void odds() {
        edges.of(35, "Chances that a CURSE comes, if the seer lies by p (0 .. 12) of 12 (a BLESSING for a CURSE, a"
                + " CURSE for a BLESSING): 1.");
        HillSeer x = Check.camped("t345444444444h001h011h021");
        int[][] all = {{0, 12, 0}, {1, 11, 1}, {6, 6, 6}, {11, 1, 11}, {12, 0, 12}};
        for (int[] by : all) {
            edges.due("odds(0, " + by[0] + ")", x.odds(0, by[0]), 1);
            edges.due("of a CURSE, " + by[1] + " by 12", x.upper() * 12, by[1] * x.lower());
            edges.due("odds(1, " + by[0] + ")", x.odds(1, by[0]), 1);
            edges.parts("of SILENCE", x, 0, 1);
            edges.due("odds(2, " + by[0] + ")", x.odds(2, by[0]), 1);
            edges.due("of a BLESSING, " + by[2] + " by 12", x.upper() * 12, by[2] * x.lower());
        }
        edges.due("count(2): aside", x.count(2), 0);
        edges.of(35, "BAD.");
        for (int p : new int[] {Edges.LEAST, -1, 13, Edges.MOST}) {
            edges.bad(Edges.camp(Check.THREE_HILLS), "odds(0, " + p + ")", y -> y.odds(0, p));
        }
        for (int h : Edges.noHills(3)) {
            edges.bad(Edges.camp(Check.THREE_HILLS), "odds(" + h + ", 0)", y -> y.odds(h, 0));
        }
        edges.bad(Edges.NEW, "odds(0, 0) without HILLS", y -> y.odds(0, 0));
    }

    private void mid(String text, int p, int upper, int lower) {
        HillSeer x = Check.camped(text);
        edges.due("mid(" + p + ") of " + text, x.mid(p), 1);
        edges.parts("mid(" + p + ") of " + text, x, upper, lower);
    }

    private void mid() {
        edges.of(36, "The mean of TENTS CURSED then, spoken from all HILLS in their order, the seer lying by p at each"
                + " by itself: 1.");
        mid("t000000000000h009", 0, 9, 1);
        mid("t000000000000h009", 12, 0, 1);
        mid("t000000000000h009", 1, 33, 4);
        mid("t999999999999h009h039", 0, 0, 1);
        mid("t999999999999h009h039", 12, 12, 1);
        mid("t999999999999h009h039", 1, 1, 1);
        mid("t444444444444h009h039", 6, 0, 1);
        mid("t095444444444h001h002h021", 3, 5, 4);
        // The CURSE of the first HILL binds TENT 0, whatever the other would say of it.
        mid("t098444444444h001h003", 4, 4, 3);
        mid("t098444444444h003h001", 4, 1, 1);
        HillSeer x = Check.camped("t000999444444h003h033");
        x.speak(0);
        x.mid(12);
        edges.parts("mid(12) with three of before", x, 6, 1);
        x.mid(0);
        edges.parts("mid(0) with three of before", x, 3, 1);
        edges.due("count(2): aside", x.count(2), 1);
        HillSeer fog = Check.camped("t000000000000f002");
        fog.day();
        fog.mid(0);
        edges.parts("mid(0) on DAY 1", fog, 1, 1);
    }

    private void midRefused() {
        edges.of(36, "BAD");
        for (int p : new int[] {Edges.LEAST, -1, 13, Edges.MOST}) {
            edges.bad(Edges.camp(Check.THREE_HILLS), "mid(" + p + ")", x -> x.mid(p));
            edges.bad(Edges.NEW, "mid(" + p + ") without HILLS", x -> x.mid(p));
        }
        edges.of(36, "STATE: no HILLS.");
        for (int p = 0; p <= 12; p++) {
            int it = p;
            edges.state(Edges.NEW, "mid(" + p + ")", x -> x.mid(it));
        }
    }

    /** The DEED of a lot, by the calls that do it. */
    static int byLot(HillSeer x, int number, int hills) {
        int sort = number / 8 % 4;
        if (sort == 0) {
            x.day();
        } else if (sort == 1) {
            int tent = number % 12;
            x.change(tent, tent == 11 ? 0 : tent + 1);
        } else {
            x.speak(number % hills);
        }
        return sort;
    }

    private static int next(int number) {
        return (int) (number * 48271L % 2147483647L);
    }

    private void lots() {
        edges.of(37, "n (1 .. 20) DEEDS truly by LOTS of a seed: for each a number:");
        for (int n = 1; n <= 20; n++) {
            HillSeer x = Check.camped(Check.ALL_KINDS);
            HillSeer own = Check.camped(Check.ALL_KINDS);
            int number = 5;
            for (int i = 0; i < n; i++) {
                number = next(number);
                byLot(own, number, 6);
            }
            edges.due("lots(" + n + ", 5)", x.lots(n, 5), own.count(3));
            edges.due("count(2)", x.count(2), n);
            edges.due("digest() behind " + n, x.digest(), own.digest());
            edges.due("undo(0)", x.undo(0), n);
        }
        edges.of(37, "GOLD then.");
        HillSeer x = Check.camped("t000000000000h009");
        edges.due("lots of a DAY", x.lots(1, seedFor(0, 0)), 0);
        x.speak(0);
        edges.due("lots of a DAY with GOLD of before", x.lots(1, seedFor(0, 0)), 3);
        edges.due("lots of a CURSE with GOLD of before", x.lots(1, seedFor(2, 0)), 6);
        edges.due("lots of a CURSE again", x.lots(1, seedFor(3, 0)), 9);
        edges.due("count(3)", x.count(3), 9);
    }

    /** The first seed whose first lot does so. */
    private static int seedFor(int sort, int tent) {
        int seed = 1;
        while (next(seed) / 8 % 4 != sort || next(seed) % 12 != tent) {
            seed++;
        }
        return seed;
    }

    private void lotsOfSorts() {
        edges.of(37, "it by 8, cut, modulo 4: 0 a DAY, 1 a CHANGE of TENT it modulo 12 and the next one (behind 11: 0),"
                + " else the seer SPEAKS from HILL it modulo how many there are:");
        for (int sort = 0; sort <= 3; sort++) {
            for (int rest = 0; rest < 12; rest++) {
                int seed = seedFor(sort, rest);
                HillSeer x = Check.camped("t012345678987h001h011h021h031h041h051");
                String call = "lots(1, " + seed + ")";
                edges.due(call, x.lots(1, seed), sort < 2 ? 0 : new int[] {3, 3, 3, 3, 1, 0}[rest % 6]);
                edges.due(call + " count(1)", x.count(1), sort == 0 ? 1 : 0);
                int next = rest == 11 ? 0 : rest + 1;
                int[] givens = {-4, -3, -2, -1, 0, 1, 2, 3, 4, 5, 4, 3};
                edges.tells(call + " tent(" + rest + ", 0)", x, x.tent(rest, 0), givens[sort == 1 ? next : rest]);
                edges.tells(call + " tent(" + next + ", 0)", x, x.tent(next, 0), givens[sort == 1 ? rest : next]);
                int bound = x.count(4) + x.count(5);
                edges.due(call + " bound", bound, sort < 2 || rest % 6 == 4 ? 0 : 1 << rest % 6);
            }
        }
        for (int hills = 1; hills <= 6; hills++) {
            HillSeer x = Check.camped("t000000000000" + "h001h011h021h031h041h051".substring(0, 4 * hills));
            x.lots(1, seedFor(2, 11));
            edges.due("it modulo " + hills, x.count(5), 1 << next(seedFor(2, 11)) % hills);
        }
    }

    private static HillSeer done(int many) {
        HillSeer x = Edges.camped(Check.ALL_KINDS);
        Edges.days(x, many);
        return x;
    }

    private void lotsRefused() {
        edges.of(37, "BAD");
        for (int n : new int[] {Edges.LEAST, -1, 0, 21, Edges.MOST}) {
            edges.bad(Edges.camp(Check.ALL_KINDS), "lots(" + n + ", 1)", x -> x.lots(n, 1));
            edges.bad(Edges.NEW, "lots(" + n + ", 1) without HILLS", x -> x.lots(n, 1));
        }
        for (int seed : new int[] {Edges.LEAST, -1, 0, Edges.MOST}) {
            edges.bad(Edges.camp(Check.ALL_KINDS), "lots(1, " + seed + ")", x -> x.lots(1, seed));
            edges.bad(Edges.NEW, "lots(1, " + seed + ") without HILLS", x -> x.lots(1, seed));
        }
        edges.due("lots(1, 2147483646)", done(0).lots(1, 2147483646) >= 0 ? 1 : 0, 1);
        edges.of(37, "STATE: no HILLS");
        edges.state(Edges.NEW, "lots(1, 1)", x -> x.lots(1, 1));
        edges.state(Edges.NEW, "lots(20, 2147483646)", x -> x.lots(20, 2147483646));
        edges.of(37, "FULL: with n more there would be more than 40 DEEDS.");
        for (int n = 1; n <= 20; n++) {
            int it = n;
            edges.full(() -> done(41 - it), "lots(" + n + ", 1) of " + (41 - n), x -> x.lots(it, 1));
            HillSeer x = done(40 - n);
            edges.due("lots(" + n + ", 1) of " + (40 - n), x.lots(n, 1) >= 0 ? x.count(2) : -1, 40);
        }
        edges.full(() -> done(40), "lots(20, 1) of 40", x -> x.lots(20, 1));
        edges.of(37, "(FULL last.)");
        for (int n : new int[] {Edges.LEAST, -1, 0, 21, Edges.MOST}) {
            edges.bad(() -> done(40), "lots(" + n + ", 1) of 40", x -> x.lots(n, 1));
        }
        edges.bad(() -> done(40), "lots(1, 0) of 40", x -> x.lots(1, 0));
    }
}
