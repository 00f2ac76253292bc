/** Promises 38 to 44: what is told. */
public final class ToldTest {
    private static final Check check = new Check();

    public static void main(String[] args) {
        constants();
        asked();
        counts();
        findings();
        digest();
        check.end();
    }

    private static void constants() {
        check.due("BAD", HillSeer.BAD, -1);
        check.due("FULL", HillSeer.FULL, -2);
        check.due("FINDING", HillSeer.FINDING, -3);
        check.due("STATE", HillSeer.STATE, -4);
        check.due("SPENT", HillSeer.SPENT, -6);
        check.due("NONE", HillSeer.NONE, -9);
    }

    /** Only the calls that the document names tell by asked(). */
    private static void asked() {
        HillSeer x = Check.camped(Check.THREE_HILLS);
        Check.fill(x, 0, 77);
        Check.fill(x, 1, 0, 2);
        x.at(0, 0);
        x.row(3, 3);
        x.copy(0, 0, 3, 1, 1);
        x.tear(3);
        x.put(0, 0, 116);
        x.fault(0);
        x.mark(0, 1);
        x.speak(0);
        x.day();
        x.change(0, 1);
        x.undo(1);
        x.keep(0);
        x.on(0);
        x.hidden();
        x.waits(0, 1);
        x.curse(2);
        x.spare(2);
        x.from(1);
        x.kinds(0, 1);
        x.given(0, 0, 1);
        x.king(1);
        x.odds(0, 1);
        x.mid(1);
        x.lots(1, 1);
        x.count(4);
        x.finding();
        x.findings(1);
        x.digest();
        check.due("asked() behind calls that tell nothing by it", x.asked(), 77);
        check.parts("mid(1), 39 by 12", x, 13, 4);
    }

    private static void counts() {
        HillSeer x = Check.camped(Check.ALL_KINDS);
        x.row(0, 0);
        x.row(3, 1);
        x.text(1, 0);
        x.day();
        x.speak(3);
        x.speak(2);
        x.keep(0);
        x.keep(2);
        int[] counts = {6, 1, 3, 3, 210, 1024, 2, 2, 2, 2, 2};
        for (int what = 0; what <= 10; what++) {
            check.due("count(" + what + ")", x.count(what), counts[what]);
        }
        check.due("count(-1)", x.count(-1), HillSeer.BAD);
        check.due("count(11)", x.count(11), HillSeer.BAD);
    }

    private static void findings() {
        HillSeer x = new HillSeer();
        x.at(0, 0);
        x.at(9, 0);
        check.due("finding()", x.finding(), 1);
        x.row(0, 0);
        x.at(0, 0);
        x.at(0, 1);
        check.due("finding()", x.finding(), 2);
        x.mean(0);
        check.due("finding()", x.finding(), 4);
        x.text(0, -7);
        check.due("finding()", x.finding(), 5);
        Check.fill(x, 0, 0, 7);
        x.from(0);
        check.due("finding()", x.finding(), 3);
        int[] often = {1, 2, 1, 1, 1};
        for (int f = 1; f <= 5; f++) {
            check.due("findings(" + f + ")", x.findings(f), often[f - 1]);
        }
        check.due("findings(0)", x.findings(0), HillSeer.BAD);
        check.due("findings(6)", x.findings(6), HillSeer.BAD);
    }

    private static long mix(long h, long... values) {
        for (long v : values) {
            h = 31 * h + v;
        }
        return h;
    }

    private static void digest() {
        HillSeer x = new HillSeer();
        long h = mix(17, 0, 0, 0, 0, 0, 0, 0, 0, 0, 0, 0, -1, -1, -1);
        check.due("digest() of a new object", x.digest(), mix(h, -1, -1, -1, -1, -1, -1, -1, -1, -1, -1));
        Check.fill(x, 1, 5, -6);
        x.text(3, 2);
        x.put(3, 1, 255);
        h = mix(17, 0, 0, 0, 0, 0, 0, 0, 0, 1, 1, 0, -1, -1, -1);
        h = mix(h, -1, 2, 5, -6, -1, -1, -1, -1, -1, -1, -1, 2, 32, -1);
        check.due("digest() without HILLS", x.digest(), h);
        HillSeer y = Check.camped("t441063584427b024");
        y.tear(0);
        y.speak(0);
        y.keep(1);
        y.day();
        h = mix(17, 1, 1, 2, 3, 0, 20, 1, 0, 0, 1, 1);
        h = mix(h, 0, 0, -3, -4, 2, -1, 1, 4, 0, 0, -2, 3);
        h = mix(h, 1, 2, 4, 20, -1, 2);
        h = mix(h, -1, 1, -1, -1, -1, -1, -1, -1, -1, 17);
        for (char c : "t441063584427b024".toCharArray()) {
            h = mix(h, c);
        }
        check.due("digest() of a CAMP", y.digest(), mix(h, -1, -1, -1));
    }
}
