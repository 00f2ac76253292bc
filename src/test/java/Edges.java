import java.util.function.Supplier;
import java.util.function.ToIntFunction;

/**
 * Tests of single sentences of the document: each begins with of(), which names the promise (0: 'Terms') and the
 * sentence, in the document's own words. Each refusal is asked of an object of its own, so that none of them is used
 * for more calls than the document allows.
 */
final class Edges {
    static final int BAD = -1, FULL = -2, FINDING = -3, STATE = -4, NONE = -9;
    static final int NOTHING = 1, BEYOND = 2, UNLIKE = 3, NOUGHT = 4, SIZE = 5;
    static final int LEAST = Integer.MIN_VALUE, MOST = Integer.MAX_VALUE;
    static final int[] NO_ROWS = {LEAST, -1, 6, MOST};
    static final int[] NO_TEXTS = {LEAST, -1, 4, MOST};
    static final int[] NO_TENTS = {LEAST, -1, 12, MOST};
    static final int[] NO_KEEPING_PLACES = {LEAST, -1, 3, MOST};
    static final Supplier<HillSeer> NEW = HillSeer::new;

    private final Document document;
    private String named = "";
    private int sentences = 0;
    private int answers = 0;
    private int answersBefore = 0;
    private int wrong = 0;

    Edges(Document document) {
        this.document = document;
    }

    void of(int promise, String sentence) {
        closeSentence();
        named = (promise == 0 ? "Terms" : "promise " + promise) + ", \"" + sentence + "\"";
        sentences++;
        if (document != null && !document.name(promise, sentence)) {
            fail("the document does not say so");
        }
    }

    private void closeSentence() {
        if (sentences > 0 && answers == answersBefore) {
            fail("nothing was asked");
        }
        answersBefore = answers;
    }

    private void fail(String what) {
        wrong++;
        System.out.println(named + ": " + what);
    }

    void due(String call, long got, long want) {
        answers++;
        if (got != want) {
            fail(call + " answered " + got + ", due is " + want);
        }
    }

    /** A call that tells by asked(). */
    void tells(String call, HillSeer x, int got, int want) {
        due(call, got, 1);
        due(call + " asked()", x.asked(), want);
    }

    void parts(String call, HillSeer x, long upper, long lower) {
        due(call + " upper()", x.upper(), upper);
        due(call + " lower()", x.lower(), lower);
    }

    void bad(Supplier<HillSeer> made, String call, ToIntFunction<HillSeer> asks) {
        refused(made, call, asks, BAD, 0);
    }

    void state(Supplier<HillSeer> made, String call, ToIntFunction<HillSeer> asks) {
        refused(made, call, asks, STATE, 0);
    }

    void full(Supplier<HillSeer> made, String call, ToIntFunction<HillSeer> asks) {
        refused(made, call, asks, FULL, 0);
    }

    void finds(int finding, Supplier<HillSeer> made, String call, ToIntFunction<HillSeer> asks) {
        refused(made, call, asks, FINDING, finding);
    }

    /** Nothing but finding(), findings() changes, and these by a FINDING (else 0) alone. */
    private void refused(Supplier<HillSeer> made, String call, ToIntFunction<HillSeer> asks, int answer, int finding) {
        HillSeer x = made.get();
        String before = told(x);
        int latest = x.finding();
        int[] often = new int[6];
        for (int f = 1; f <= 5; f++) {
            often[f] = x.findings(f);
        }
        due(call, asks.applyAsInt(x), answer);
        due(call + " finding()", x.finding(), finding == 0 ? latest : finding);
        for (int f = 1; f <= 5; f++) {
            due(call + " findings(" + f + ")", x.findings(f), often[f] + (f == finding ? 1 : 0));
        }
        due(call + " changes nothing else", told(x).equals(before) ? 1 : 0, 1);
    }

    static String told(HillSeer x) {
        return x.digest() + " " + x.asked() + " " + x.upper() + " " + x.lower();
    }

    /** A CAMP; asked() is 77 and upper(), lower() are not as at first, so that a change of them shows. */
    static HillSeer camped(String text) {
        HillSeer x = Check.camped(text);
        Check.fill(x, 5, 77);
        x.at(5, 0);
        x.odds(0, 5);
        return x;
    }

    static Supplier<HillSeer> camp(String text) {
        return () -> camped(text);
    }

    /** A CAMP with 40 DEEDS, all of them DAYS. */
    static Supplier<HillSeer> fullCamp(String text) {
        return () -> {
            HillSeer x = camped(text);
            days(x, 40);
            return x;
        };
    }

    static void days(HillSeer x, int n) {
        for (int i = 0; i < n; i++) {
            x.day();
        }
    }

    static int[] noHills(int hills) {
        return new int[] {LEAST, -1, hills, MOST};
    }

    void end() {
        closeSentence();
        for (int promise = 0; document != null && promise <= Document.PROMISES; promise++) {
            String left = document.unnamed(promise);
            if (!left.isEmpty()) {
                wrong++;
                System.out.println((promise == 0 ? "Terms" : "promise " + promise) + ": no test names " + left);
            }
        }
        System.out.println(sentences + " sentences, " + answers + " answers, " + wrong + " wrong"
                + (document == null ? " (without the document)" : ""));
        if (wrong != 0) {
            System.exit(1);
        }
    }
}
