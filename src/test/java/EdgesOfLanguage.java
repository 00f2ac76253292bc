/** 'Terms', part 1, sentence by sentence: what a CAMP is, KINDS of HILLS, what is SEEN, the WORD. */
final class EdgesOfLanguage {
    private static final String TENTS = "t941063584427";
    private static final String LETTERS = "hbwfir";
    private final Edges edges;

    EdgesOfLanguage(Edges edges) {
        this.edges = edges;
    }

    void all() {
        blanks();
        tents();
        hills();
        faults();
        ends();
        letters();
        seen();
        seenByWoodAndFog();
        words();
    }

    /** The FAULT that is due, and a CAMP if there is NONE. */
    private void fault(String text, int want) {
        HillSeer x = new HillSeer();
        Check.write(x, 1, text);
        edges.due("fault of \"" + text + "\"", x.fault(1), want);
        edges.due("camp of \"" + text + "\" is refused", x.camp(1) == Edges.STATE ? 1 : 0, want == Edges.NONE ? 0 : 1);
    }

    private static String with(String text, int place, int sign) {
        return text.substring(0, place) + (char) sign + text.substring(place + 1);
    }

    private void blanks() {
        edges.of(0, "A CAMP (without TENTS, HILLS at first) is a TEXT: blanks (32) ahead, between, behind as many as"
                + " wanted, none within items.");
        HillSeer none = new HillSeer();
        edges.due("count(0) at first", none.count(0), 0);
        edges.due("tent(0, 0) at first", none.tent(0, 0), Edges.STATE);
        String text = TENTS + "h024b095";
        for (int place = 0; place <= text.length(); place++) {
            boolean between = place == 0 || place == 13 || place == 17 || place == 21;
            for (int many : new int[] {1, 2, 60 - text.length()}) {
                String wide = text.substring(0, place) + " ".repeat(many) + text.substring(place);
                fault(wide, between ? Edges.NONE : place);
            }
        }
        fault("   " + TENTS + "  h024 b095   ", Edges.NONE);
        for (int sign : new int[] {0, 9, 10, 13, 31, 33, 95, 160, 255}) {
            fault((char) sign + text, 0);
            fault(TENTS + (char) sign + "h024", 13);
            fault(text + (char) sign, 21);
        }
    }

    private void tents() {
        edges.of(0, "First t (116) and what is GIVEN of TENTS 0, 1, .., 11, each and 4 together (0 .. 9, twelve"
                + " figures: so -4 .. 5).");
        for (int sign : new int[] {0, 48, 84, 104, 115, 117, 244}) {
            fault(with(TENTS + "h001", 0, sign), 0);
        }
        for (int i = 0; i < 12; i++) {
            HillSeer x = new HillSeer();
            for (int figure = 0; figure <= 9; figure++) {
                Check.write(x, 0, with("t444444444444h001", 1 + i, '0' + figure));
                x.camp(0);
                edges.tells("tent(" + i + ", 0)", x, x.tent(i, 0), figure - 4);
            }
            for (int sign : new int[] {0, 32, 45, 47, 58, 104, 176}) {
                fault(with(TENTS + "h001", 1 + i, sign), 1 + i);
            }
        }
        fault("t94106358442h001", 12);
        fault("t9410635844270h001", 13);
    }

    private void hills() {
        edges.of(0, "Then HILLS (1 to 6; 0, 1, .. as they come): a letter, the first TENT seen from it (two figures,"
                + " 00 .. 11), how BROAD the view is (1 .. 9, one figure).");
        for (int many = 0; many <= 7; many++) {
            fault(TENTS + "h001".repeat(many), many == 0 ? 13 : many == 7 ? 37 : Edges.NONE);
        }
        for (int first = 0; first <= 11; first++) {
            HillSeer x = new HillSeer();
            for (int broad = 1; broad <= 9; broad++) {
                String hill = "h" + first / 10 + first % 10 + broad;
                Check.write(x, 0, TENTS + hill + "f114");
                edges.due("camp of " + hill, x.camp(0), 2);
                edges.tells("hill(0, 1) of " + hill, x, x.hill(0, 1), first);
                edges.tells("hill(0, 2) of " + hill, x, x.hill(0, 2), broad);
                edges.tells("hill(1, 0) behind " + hill, x, x.hill(1, 0), 3);
                edges.tells("hill(1, 1) behind " + hill, x, x.hill(1, 1), 11);
            }
        }
        for (int sign : new int[] {0, 32, 47, 48, 58, 104}) {
            fault(TENTS + "h11" + (char) sign, 16);
        }
        fault(TENTS + "h11 9", 16);
        fault(TENTS + "h1199", 17);
        fault(TENTS + "11h9", 13);
        fault("h119" + TENTS, 0);
        fault(TENTS + "h119" + TENTS, 17);
    }

    private void faults() {
        String text = "t941063584427 h024b095w017f103i084r069";
        edges.of(0, "A FAULT is the first place at which it can't go on so (a letter, a figure that is none such,");
        for (int place = 0; place < text.length(); place++) {
            for (int sign : new int[] {63, 0, 128}) {
                fault(with(text, place, sign), place);
            }
        }
        fault(with(with(text, 3, 63), 20, 63), 3);
        for (int first = 2; first <= 9; first++) {
            for (int second = 0; second <= 9; second++) {
                fault(TENTS + "h" + first + second + "1", 14);
            }
            fault(TENTS + "h" + first, 14);
        }
        edges.of(0, "a second figure by which there is no such TENT,");
        for (int second = 0; second <= 9; second++) {
            fault(TENTS + "h1" + second + "1", second <= 1 ? Edges.NONE : 15);
            fault(TENTS + "h0" + second + "1", Edges.NONE);
            fault(TENTS + "h1" + second, second <= 1 ? 16 : 15);
        }
        edges.of(0, "a seventh HILL: its place;");
        for (int ahead = 0; ahead <= 5; ahead++) {
            fault(text + " ".repeat(ahead) + "h001", 38 + ahead);
            fault(text + " ".repeat(ahead) + "h", 38 + ahead);
            fault(text + " ".repeat(ahead), Edges.NONE);
        }
    }

    private void ends() {
        String text = "t941063584427 h024b095w017f103i084r069";
        edges.of(0, "the TEXT's size, if its end comes too early, or there are blanks alone).");
        for (int size = 0; size <= text.length(); size++) {
            boolean whole = size >= 18 && (size - 14) % 4 == 0;
            fault(text.substring(0, size), whole ? Edges.NONE : size);
        }
        fault(TENTS + "  ", 15);
        fault(TENTS + " ".repeat(47), 60);
        fault(" ".repeat(45) + TENTS + "h0", 60);
        fault(" ".repeat(43) + TENTS + "h001", Edges.NONE);
        for (int size = 0; size <= 60; size++) {
            fault(" ".repeat(size), size);
        }
    }

    private void letters() {
        edges.of(0, "KINDS of HILLS and letters: 0 HILL (h, 104), 1 BARE (b, 98; a HILL), 2 WOODED (w, 119; a HILL),"
                + " 3 FOGGY (f, 102; a HILL), 4 HIGH (i, 105; a BARE), 5 FAR (r, 114; a WOODED).");
        int[] codes = {104, 98, 119, 102, 105, 114};
        for (int sign = 0; sign < 256; sign++) {
            HillSeer x = new HillSeer();
            Check.write(x, 0, TENTS + (char) sign + "012");
            int kind = -1;
            for (int k = 0; k < 6; k++) {
                kind = codes[k] == sign ? k : kind;
            }
            edges.due("camp of the letter " + sign, x.camp(0), kind < 0 ? Edges.STATE : 1);
            if (kind >= 0) {
                edges.tells("hill(0, 0) of the letter " + sign, x, x.hill(0, 0), kind);
                edges.due("count(6)", x.count(6), kind == 1 || kind == 4 ? 1 : 0);
                edges.due("count(7)", x.count(7), kind == 2 || kind == 5 ? 1 : 0);
            } else {
                edges.due("fault of the letter " + sign, x.fault(0), sign == 32 ? 14 : 13);
            }
        }
    }

    /** What is SEEN from a HILL of each first TENT, of each breadth, on a DAY. */
    private void view(int kind, int day, String givens, SeenBy sees) {
        for (int first = 0; first <= 11; first++) {
            for (int broad = 1; broad <= 9; broad++) {
                String hill = "" + LETTERS.charAt(kind) + first / 10 + first % 10 + broad;
                HillSeer x = Check.camped("t" + givens + hill);
                Edges.days(x, day);
                int want = 0;
                for (int i = first; i <= 11; i++) {
                    want += sees.at(i - first, broad, givens.charAt(i) - '4') ? 1 << i : 0;
                }
                edges.tells("hill(0, 3) of " + hill + " on DAY " + day, x, x.hill(0, 3), want);
            }
        }
    }

    /** Whether a TENT so many places behind the first one is SEEN. */
    private interface SeenBy {
        boolean at(int behind, int broad, int given);
    }

    private void seen() {
        String givens = "941063584427";
        edges.of(0, "From a HILL are SEEN its first TENT and those behind it, as many as it is BROAD (not beyond"
                + " TENT 11);");
        for (int day = 0; day <= 1; day++) {
            view(0, day, givens, (behind, broad, given) -> behind < broad);
        }
        edges.of(0, "from a BARE one every second of these (the first, the third, ..);");
        for (int day = 0; day <= 1; day++) {
            view(1, day, givens, (behind, broad, given) -> behind < broad && behind % 2 == 0);
        }
        edges.of(0, "from a HIGH one so, of twice as many;");
        for (int day = 0; day <= 1; day++) {
            view(4, day, givens, (behind, broad, given) -> behind < 2 * broad && behind % 2 == 0);
        }
    }

    private void seenByWoodAndFog() {
        edges.of(0, "from a WOODED one (FAR, too) those of these of which 0 or more is GIVEN;");
        for (String givens : new String[] {"941063584427", "343434343434", "333333333333", "444444444444"}) {
            view(2, 0, givens, (behind, broad, given) -> behind < broad && given >= 0);
            view(5, 1, givens, (behind, broad, given) -> behind < broad && given > -1);
        }
        edges.of(0, "from a FOGGY one on odd DAYS half as many (cut).");
        for (int day = 0; day <= 4; day++) {
            int parts = day % 2 == 1 ? 2 : 1;
            view(3, day, "941063584427", (behind, broad, given) -> behind < broad / parts);
        }
        HillSeer x = Check.camped(TENTS + "f001");
        Edges.days(x, 39);
        edges.tells("hill(0, 3) on DAY 39", x, x.hill(0, 3), 0);
        edges.due("day()", x.day(), 40);
        edges.tells("hill(0, 3) on DAY 40", x, x.hill(0, 3), 1);
    }

    private void word(String text, int sum, int word) {
        HillSeer x = Check.camped(text);
        edges.tells("hill(0, 4) of " + text, x, x.hill(0, 4), sum);
        edges.tells("hill(0, 5) of " + text, x, x.hill(0, 5), word);
        edges.due("speak(0) of " + text, x.speak(0), word);
    }

    private void words() {
        edges.of(0, "The WORD of a HILL is the sum of what is GIVEN of TENTS that are SEEN from it;");
        word("t999999999999h009", 45, 1);
        word("t000000000000h009", -36, 2);
        word("t999999999999i009", 30, 1);
        word("t000000000000b119", -4, 2);
        word("t000000000000w009", 0, 0);
        word("t090909090909w009", 20, 1);
        word("t090909090909b009", -20, 2);
        edges.of(0, "of a FAR one each is cut to its half.");
        int[] halves = {0, 0, 1, 1, 2, 2};
        for (int given = 0; given <= 5; given++) {
            word("t" + (4 + given) + "44444444444r001", halves[given], halves[given] > 0 ? 1 : 0);
        }
        word("t555555555555r009", 0, 0);
        word("t777777777777r009", 9, 1);
        word("t999999999999r009", 18, 1);
        word("t064444444444r002", 1, 1);
        edges.of(0, "It is a BLESSING (1), if it is above 0, a CURSE (2) below 0, SILENCE (0) at 0.");
        word("t444444444444h001", 0, 0);
        word("t354444444444h002", 0, 0);
        word("t544444444444h001", 1, 1);
        word("t344444444444h001", -1, 2);
    }
}
