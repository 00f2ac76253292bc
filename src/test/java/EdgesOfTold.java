/** Promises 38 to 44, sentence by sentence: what is told. */
final class EdgesOfTold {
    private final Edges edges;

    EdgesOfTold(Edges edges) {
        this.edges = edges;
    }

    void all() {
        asked();
        askedOfOthers();
        upperAndLower();
        counts();
        countRefused();
        finding();
        findings();
        digest();
        digestOfCamps();
        digestWraps();
    }

    private void askedBy(String call, HillSeer x, int answer, int want) {
        edges.due(call + " is not refused", answer >= 0 ? 1 : 0, 1);
        edges.due("asked() behind " + call, x.asked(), want);
    }

    private void asked() {
        edges.of(38, "What the latest lay(), at(), mean(), hill(), tent(), only(), fewest(), orders(), rides(),"
                + " blessed(), fees()");
        HillSeer x = Check.camped("t345544444444h001h003h021");
        x.row(0, 3);
        askedBy("lay", x, x.lay(0, 0, 21), 0);
        askedBy("lay", x, x.lay(0, 0, 24), 21);
        askedBy("at", x, x.at(0, 0), 24);
        askedBy("mean", x, x.mean(0), 8);
        askedBy("hill", x, x.hill(2, 1), 2);
        askedBy("tent", x, x.tent(0, 0), -1);
        askedBy("only", x, x.only(1, 0), 2);
        askedBy("fewest", x, x.fewest(), 2);
        askedBy("orders", x, x.orders(1), 1);
        x.row(0, 4);
        askedBy("rides", x, x.rides(0), 12);
        askedBy("blessed", x, x.blessed(), 3);
        askedBy("fees", x, x.fees(1, 0, 9, 0), 2);
        askedBy("fees of no DAY", x, x.fees(0, 0, 9, 0), Edges.NONE);
        edges.of(38, "that was not refused (nor NONE) told;");
        HillSeer y = Edges.camped("t444444444444h001h001");
        int[] refusals = {y.lay(0, 0, 1), y.lay(5, 1, 1), y.lay(6, 0, 1), y.at(0, 0), y.at(5, 1), y.at(6, 0),
            y.mean(0), y.mean(6), y.hill(2, 0), y.hill(0, 6), y.tent(12, 0), y.tent(0, 3), y.only(0, 0), y.only(0, 2),
            y.orders(13), y.rides(0), y.rides(6), y.rides(5), y.blessed(), y.fees(10, 0, 0, 0), y.fees(1, 0, 0, 10)};
        for (int i = 0; i < refusals.length; i++) {
            edges.due("refusal " + i, refusals[i] < 0 ? 1 : 0, 1);
        }
        edges.due("blessed() is NONE", y.blessed(), Edges.NONE);
        edges.due("asked() behind " + refusals.length + " refusals", y.asked(), 77);
        edges.of(38, "0 before.");
        HillSeer none = new HillSeer();
        edges.due("asked() of a new object", none.asked(), 0);
        int[] states = {none.tent(0, 0), none.fewest(), none.orders(0), none.rides(0), none.blessed(),
            none.fees(0, 0, 0, 0)};
        for (int state : states) {
            edges.due("without HILLS", state, Edges.STATE);
        }
        edges.due("asked() behind refusals alone", none.asked(), 0);
    }

    private void askedOfOthers() {
        edges.of(38, "What the latest lay(), at(), mean(), hill(), tent(), only(), fewest(), orders(), rides(),"
                + " blessed(), fees() that was not refused (nor NONE) told;");
        HillSeer x = Edges.camped(Check.ALL_KINDS);
        Check.write(x, 1, "  t000000000000h001");
        x.row(3, 9);
        x.row(2, 2);
        x.copy(5, 0, 3, 1, 1);
        x.tear(3);
        int[] answers = {x.fault(1), x.mark(1, 1), x.speak(0), x.day(), x.change(0, 1), x.undo(1), x.keep(0), x.on(0),
            x.hidden(), x.waits(0, 1), x.curse(1), x.spare(1), x.from(2), x.kinds(0, 2), x.given(0, 0, 2), x.king(1),
            x.odds(0, 1), x.mid(1), x.lots(2, 3), x.count(4), x.finding(), x.findings(1), x.camp(1)};
        edges.due("asked() behind " + answers.length + " other calls", x.asked(), 77);
        edges.due("the last of them", answers[answers.length - 1], 1);
    }

    private void upperAndLower() {
        edges.of(39, "The upper number that was told last;");
        HillSeer x = Check.camped(Check.THREE_HILLS);
        x.odds(0, 5);
        edges.due("upper() of odds", x.upper(), 7);
        x.mid(5);
        edges.due("upper() of mid", x.upper(), 3);
        x.orders(2);
        edges.due("upper() of orders", x.upper(), 3);
        x.odds(0, 5);
        int[] others = {x.odds(0, 13), x.odds(3, 0), x.mid(13), x.orders(13), x.speak(0), x.day(), x.curse(0),
            x.mean(0), x.camp(0)};
        edges.due("upper() behind " + others.length + " other calls", x.upper(), 7);
        edges.of(39, "0 before.");
        edges.due("upper() of a new object", new HillSeer().upper(), 0);
        edges.due("upper() of a new CAMP", Check.camped(Check.ALL_KINDS).upper(), 0);
        HillSeer none = new HillSeer();
        int[] refused = {none.odds(0, 0), none.mid(0), none.orders(0)};
        edges.due("upper() behind " + refused.length + " refusals", none.upper(), 0);
        edges.of(40, "Its lower number;");
        edges.due("lower()", x.lower(), 12);
        x.mid(5);
        edges.due("lower() of mid", x.lower(), 1);
        x.odds(0, 12);
        edges.due("lower() of nothing", x.lower(), 1);
        x.odds(0, 9);
        edges.due("lower() of a quarter", x.lower(), 4);
        x.orders(0);
        edges.due("lower() of orders", x.lower(), 1);
        edges.of(40, "1 before.");
        edges.due("lower() of a new object", new HillSeer().lower(), 1);
        edges.due("lower() behind refusals", none.lower(), 1);
    }

    private void counts(String when, HillSeer x, int... counts) {
        for (int what = 0; what <= 10; what++) {
            edges.due(when + ", count(" + what + ")", x.count(what), counts[what]);
        }
    }

    private void counts() {
        edges.of(41, "0 HILLS, 1 the DAY, 2 DEEDS, 3 GOLD, 4 TENTS BLESSED (bits), 5 CURSED (bits), 6 BARE ones (HIGH,"
                + " too), 7 WOODED ones (FAR, too), 8 ROWS, 9 TEXTS that are there, 10 kept CAMPS.");
        HillSeer x = new HillSeer();
        counts("new", x, 0, 0, 0, 0, 0, 0, 0, 0, 0, 0, 0);
        Check.write(x, 3, "t944444444440b001i111b001i001i001h001");
        x.camp(3);
        counts("BARE, HIGH", x, 6, 0, 0, 0, 0, 0, 5, 0, 0, 1, 0);
        x.speak(0);
        x.speak(1);
        x.day();
        x.keep(2);
        counts("done", x, 6, 1, 3, 3, 1, 2048, 5, 0, 0, 1, 1);
        Check.write(x, 0, "t333333333333w001r001w001r001f001");
        x.camp(0);
        counts("WOODED, FAR", x, 5, 0, 0, 0, 0, 0, 0, 4, 0, 2, 0);
        for (int r = 0; r < 6; r++) {
            x.row(r, 0);
        }
        for (int t = 0; t < 4; t++) {
            x.text(t, 0);
        }
        for (int k = 0; k < 3; k++) {
            x.keep(k);
        }
        Edges.days(x, 40);
        counts("all there is", x, 5, 40, 40, 0, 0, 0, 0, 4, 6, 4, 3);
        x.tear(0);
        counts("a ROW less", x, 5, 40, 40, 0, 0, 0, 0, 4, 5, 4, 3);
    }

    private void countRefused() {
        edges.of(41, "BAD.");
        for (int what : new int[] {Edges.LEAST, -1, 11, Edges.MOST}) {
            edges.bad(Edges.camp(Check.ALL_KINDS), "count(" + what + ")", x -> x.count(what));
            edges.bad(Edges.NEW, "count(" + what + ") of a new object", x -> x.count(what));
        }
    }

    /** One of each FINDING, 1 .. 5, behind the same calls. */
    private static HillSeer found(int... findings) {
        HillSeer x = Check.camped(Check.ALL_KINDS);
        x.row(1, 0);
        for (int f : findings) {
            int answer = f == 1 ? x.at(0, 0) : f == 2 ? x.at(1, 0) : f == 3 ? x.mark(0, 1) : f == 4 ? x.mean(1)
                    : x.row(1, -1);
            if (answer != Edges.FINDING) {
                throw new IllegalStateException("FINDING " + f + " was not answered");
            }
        }
        return x;
    }

    private void finding() {
        edges.of(42, "The latest FINDING (0 before any).");
        edges.due("finding() of a new object", new HillSeer().finding(), 0);
        HillSeer none = new HillSeer();
        int[] refused = {none.row(6, 0), none.day(), none.tent(0, 0), none.findings(0)};
        edges.due("finding() behind " + refused.length + " BAD and STATE", none.finding(), 0);
        for (int f = 1; f <= 5; f++) {
            edges.due("finding() of " + f, found(f).finding(), f);
            for (int before = 1; before <= 5; before++) {
                edges.due("finding() of " + before + ", " + f, found(before, f).finding(), f);
            }
        }
        HillSeer x = found(4);
        int[] others = {x.row(0, 2), x.at(0, 0), x.at(6, 0), x.speak(0), x.camp(0), x.findings(4), x.keep(3)};
        edges.due("finding() behind " + others.length + " other calls", x.finding(), 4);
    }

    private void findings() {
        edges.of(43, "How often a FINDING (1 .. 5) was answered.");
        for (int f = 1; f <= 5; f++) {
            edges.due("findings(" + f + ") of a new object", new HillSeer().findings(f), 0);
            HillSeer x = found(f, f, f, f % 5 + 1);
            for (int other = 1; other <= 5; other++) {
                edges.due("findings(" + other + ")", x.findings(other), other == f ? 3 : other == f % 5 + 1 ? 1 : 0);
            }
            x.camp(0);
            edges.due("findings(" + f + ") behind a CAMP anew", x.findings(f), 3);
        }
        edges.of(43, "BAD.");
        for (int f : new int[] {Edges.LEAST, -1, 0, 6, Edges.MOST}) {
            edges.bad(() -> found(1, 2, 3, 4, 5), "findings(" + f + ")", x -> x.findings(f));
        }
    }

    private static long mix(long h, long... values) {
        for (long v : values) {
            h = 31 * h + v;
        }
        return h;
    }

    private void digest() {
        edges.of(44, "h = 17; then h = 31 h + v for each v: count() 0 to 10; what is GIVEN of TENTS 0 to 11 (none"
                + " without HILLS);");
        long h = mix(17, 0, 0, 0, 0, 0, 0, 0, 0, 0, 0, 0, -1, -1, -1);
        edges.due("digest() of a new object", new HillSeer().digest(), mix(h, -1, -1, -1, -1, -1, -1, -1, -1, -1, -1));
        edges.of(44, "of each ROW its size (-1: missing) and places, of each TEXT likewise.");
        HillSeer x = new HillSeer();
        x.row(0, 0);
        Check.fill(x, 5, 3, -3);
        x.text(0, 0);
        x.text(3, 2);
        x.put(3, 1, 200);
        h = mix(17, 0, 0, 0, 0, 0, 0, 0, 0, 2, 2, 0, -1, -1, -1);
        h = mix(h, 0, -1, -1, -1, -1, 2, 3, -3);
        edges.due("digest() of ROWS, TEXTS", x.digest(), mix(h, 0, -1, -1, 2, 32, -56));
    }

    private void digestOfCamps() {
        edges.of(44, "of each HILL hill() 0 to 5; of each kept CAMP how many DEEDS (-1: missing);");
        HillSeer x = new HillSeer();
        Check.write(x, 0, "t905444444443h001r112");
        x.camp(0);
        x.text(0, 0);
        x.keep(2);
        x.speak(0);
        x.day();
        x.keep(0);
        long h = mix(17, 2, 1, 2, 0, 1, 0, 0, 1, 0, 1, 2);
        h = mix(h, 5, -4, 1, 0, 0, 0, 0, 0, 0, 0, 0, -1);
        h = mix(h, 0, 0, 1, 1, 5, 1, 5, 11, 2, 0, 0, 0);
        h = mix(h, 2, -1, 0);
        edges.due("digest() of a CAMP", x.digest(), mix(h, -1, -1, -1, -1, -1, -1, 0, -1, -1, -1));
    }

    private void digestWraps() {
        edges.of(44, "h = 31 h + v for each v");
        HillSeer x = new HillSeer();
        for (int r = 0; r < 6; r++) {
            x.row(r, 40);
            x.lay(r, 39, Edges.LEAST);
            x.lay(r, 0, Edges.MOST);
        }
        java.math.BigInteger h = java.math.BigInteger.valueOf(mix(17, 0, 0, 0, 0, 0, 0, 0, 0, 6, 0, 0, -1, -1, -1));
        for (int r = 0; r < 6; r++) {
            h = mixBig(h, 40);
            for (int i = 0; i < 40; i++) {
                h = mixBig(h, i == 0 ? Edges.MOST : i == 39 ? Edges.LEAST : 0);
            }
        }
        for (int t = 0; t < 4; t++) {
            h = mixBig(h, -1);
        }
        edges.due("digest() of six ROWS of 40", x.digest(), h.longValue());
    }

    private static java.math.BigInteger mixBig(java.math.BigInteger h, long v) {
        return h.multiply(java.math.BigInteger.valueOf(31)).add(java.math.BigInteger.valueOf(v));
    }
}
