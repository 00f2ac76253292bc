/** Counts answers that are not the ones due, and writes CAMPS for tests. */
final class Check {
    /** A CAMP with a HILL of each KIND; what is GIVEN: 5 0 -3 -4 2 -1 1 4 0 0 -2 3. */
    static final String ALL_KINDS = "t941063584427 h024b095w017f103i084r069";
    /** What is GIVEN: -4 of TENTS 0 .. 2, 5 of 3 .. 5, else 0; a CURSE, a BLESSING, a BLESSING over both. */
    static final String THREE_HILLS = "t000999444444h003h033h024";

    private int wrong = 0;
    private int made = 0;

    void due(String call, long got, long want) {
        made++;
        if (got != want) {
            wrong++;
            System.out.println(call + " answered " + got + ", due is " + want);
        }
    }

    /** A FINDING is due, and that one. */
    void refused(String call, HillSeer x, int got, int finding) {
        due(call, got, HillSeer.FINDING);
        due(call + " finding()", x.finding(), finding);
    }

    void parts(String call, HillSeer x, long upper, long lower) {
        due(call + " upper()", x.upper(), upper);
        due(call + " lower()", x.lower(), lower);
    }

    void end() {
        System.out.println(made + " answers, " + wrong + " wrong");
        if (wrong != 0) {
            System.exit(1);
        }
    }

    static void write(HillSeer x, int t, String text) {
        x.text(t, text.length());
        for (int i = 0; i < text.length(); i++) {
            x.put(t, i, text.charAt(i));
        }
    }

    static void fill(HillSeer x, int r, int... values) {
        x.row(r, values.length);
        for (int i = 0; i < values.length; i++) {
            x.lay(r, i, values[i]);
        }
    }

    static HillSeer camped(String text) {
        HillSeer x = new HillSeer();
        write(x, 0, text);
        x.camp(0);
        return x;
    }
}
