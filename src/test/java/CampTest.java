/** Promises 10 to 14: FAULTS, CAMPS, HILLS, TENTS, what a HILL tells as one of its KIND. */
public final class CampTest {
    private static final Check check = new Check();

    public static void main(String[] args) {
        faults();
        refusedFaults();
        camp();
        hill();
        tent();
        mark();
        fog();
        check.end();
    }

    private static void fault(String text, int want) {
        HillSeer x = new HillSeer();
        Check.write(x, 1, text);
        check.due("fault of \"" + text + "\"", x.fault(1), want);
        check.due("camp of \"" + text + "\" is refused", x.camp(1) == HillSeer.STATE ? 1 : 0,
                want == HillSeer.NONE ? 0 : 1);
    }

    private static void faults() {
        fault(Check.ALL_KINDS, HillSeer.NONE);
        fault("  t941063584427  h024  b095w017 ", HillSeer.NONE);
        fault("t941063584427h119", HillSeer.NONE);
        fault("t941063584427h001h001h001h001h001h001 ", HillSeer.NONE);
        fault("", 0);
        fault("   ", 3);
        fault("h001", 0);
        fault("  x", 2);
        fault("T941063584427h001", 0);
        fault("t", 1);
        fault("t94106358442", 12);
        fault("t941063584427", 13);
        fault("t941063584427  ", 15);
        fault("t94106358442 h001", 12);
        fault("t 941063584427h001", 1);
        fault("t9410x3584427h001", 5);
        fault("t9410635844271h001", 13);
        fault("t941063584427t", 13);
        fault("t941063584427 c001", 14);
        fault("t941063584427 h", 15);
        fault("t941063584427 h0", 16);
        fault("t941063584427 h00", 17);
        fault("t941063584427 h00 1", 17);
        fault("t941063584427 h 001", 15);
        fault("t941063584427 hx01", 15);
        fault("t941063584427 h0x1", 16);
        fault("t941063584427 h121", 16);
        fault("t941063584427 h191", 16);
        fault("t941063584427 h1x1", 16);
        fault("t941063584427 h1", 16);
        fault("t941063584427 h201", 15);
        fault("t941063584427 h251", 15);
        fault("t941063584427 h991", 15);
        fault("t941063584427 h2", 15);
        fault("t941063584427 h2x", 15);
        fault("t941063584427 h2 ", 15);
        fault("t941063584427 h101 h111", HillSeer.NONE);
        fault("t941063584427 h003b026w054f017i042r30", 35);
        fault("t941063584427 h000", 17);
        fault("t941063584427 h00x", 17);
        fault("t941063584427 h0011", 18);
        fault("t941063584427h001h001h001h001h001h001h001", 37);
        fault("t941063584427h001h001h001h001h001h001  x", 39);
        HillSeer x = new HillSeer();
        Check.write(x, 0, Check.ALL_KINDS);
        x.put(0, 14, 104 - 256);
        check.due("a byte is cut to itself", x.fault(0), HillSeer.NONE);
        x.put(0, 14, -104);
        check.due("a byte below 0 is no letter", x.fault(0), 14);
    }

    private static void refusedFaults() {
        HillSeer x = new HillSeer();
        check.due("fault(4)", x.fault(4), HillSeer.BAD);
        check.due("fault(-1)", x.fault(-1), HillSeer.BAD);
        check.refused("fault(3)", x, x.fault(3), 1);
        check.due("camp(4)", x.camp(4), HillSeer.BAD);
        check.due("camp(-1)", x.camp(-1), HillSeer.BAD);
        check.refused("camp(3)", x, x.camp(3), 1);
    }

    private static void camp() {
        HillSeer x = Check.camped(Check.ALL_KINDS);
        x.speak(0);
        x.speak(2);
        x.day();
        x.keep(0);
        x.text(1, 3);
        long before = x.digest();
        check.due("camp of a FAULT", x.camp(1), HillSeer.STATE);
        check.due("digest() behind it", x.digest(), before);
        Check.write(x, 2, "t444444444445 h119");
        check.due("camp anew", x.camp(2), 1);
        int[] counts = {1, 0, 0, 0, 0, 0, 0, 0, 0, 3, 0};
        for (int what = 0; what < counts.length; what++) {
            check.due("anew count(" + what + ")", x.count(what), counts[what]);
        }
        check.refused("on(0) anew", x, x.on(0), 1);
        x.tent(11, 0);
        check.due("GIVEN anew", x.asked(), 1);
    }

    private static void hill() {
        HillSeer x = Check.camped(Check.ALL_KINDS);
        int[][] facts = {
            {0, 2, 4, 60, -6, 2}, {1, 9, 5, 2560, 3, 1}, {2, 1, 7, 210, 7, 1},
            {3, 10, 3, 3072, 1, 1}, {4, 8, 4, 1280, -2, 2}, {5, 6, 9, 3008, 3, 1}};
        for (int h = 0; h < 6; h++) {
            for (int what = 0; what < 6; what++) {
                check.due("hill(" + h + ", " + what + ")", x.hill(h, what), 1);
                check.due("asked()", x.asked(), facts[h][what]);
            }
        }
        check.due("hill(6, 0)", x.hill(6, 0), HillSeer.BAD);
        check.due("hill(-1, 0)", x.hill(-1, 0), HillSeer.BAD);
        check.due("hill(0, 6)", x.hill(0, 6), HillSeer.BAD);
        check.due("hill(0, -1)", x.hill(0, -1), HillSeer.BAD);
        check.due("asked() behind BAD", x.asked(), 1);
        HillSeer two = Check.camped("t444444444444h001h002");
        check.due("hill(2, 0) of two", two.hill(2, 0), HillSeer.BAD);
        two.hill(1, 5);
        check.due("SILENCE", two.asked(), 0);
    }

    private static void tent() {
        HillSeer x = Check.camped(Check.ALL_KINDS);
        int[] givens = {5, 0, -3, -4, 2, -1, 1, 4, 0, 0, -2, 3};
        int[] seenFrom = {0, 4, 1, 1, 5, 1, 36, 36, 48, 34, 24, 42};
        x.speak(0);
        x.speak(2);
        int[] fates = {0, 1, 2, 2, 2, 2, 1, 1, 0, 0, 0, 0};
        for (int i = 0; i < 12; i++) {
            x.tent(i, 0);
            check.due("tent(" + i + ", 0)", x.asked(), givens[i]);
            x.tent(i, 1);
            check.due("tent(" + i + ", 1)", x.asked(), fates[i]);
            check.due("tent(" + i + ", 2)", x.tent(i, 2), 1);
            check.due("asked()", x.asked(), seenFrom[i]);
        }
        check.due("tent(12, 0)", x.tent(12, 0), HillSeer.BAD);
        check.due("tent(-1, 0)", x.tent(-1, 0), HillSeer.BAD);
        check.due("tent(0, 3)", x.tent(0, 3), HillSeer.BAD);
        check.due("tent(0, -1)", x.tent(0, -1), HillSeer.BAD);
        HillSeer none = new HillSeer();
        check.due("tent(12, 0) without HILLS", none.tent(12, 0), HillSeer.BAD);
        check.due("tent(0, 0) without HILLS", none.tent(0, 0), HillSeer.STATE);
    }

    private static void mark() {
        HillSeer x = Check.camped(Check.ALL_KINDS);
        int unlike = HillSeer.FINDING;
        int[][] marks = {
            {unlike, unlike, unlike, unlike, unlike}, {1, unlike, unlike, unlike, unlike},
            {unlike, 3, unlike, unlike, unlike}, {unlike, unlike, 1, unlike, unlike},
            {2, unlike, unlike, 4, unlike}, {unlike, 1, unlike, unlike, 5}};
        for (int h = 0; h < 6; h++) {
            for (int kind = 1; kind <= 5; kind++) {
                check.due("mark(" + h + ", " + kind + ")", x.mark(h, kind), marks[h][kind - 1]);
            }
        }
        check.due("findings(3)", x.findings(3), 23);
        check.due("finding()", x.finding(), 3);
        check.due("mark(0, 0)", x.mark(0, 0), HillSeer.BAD);
        check.due("mark(0, 6)", x.mark(0, 6), HillSeer.BAD);
        check.due("mark(0, -1)", x.mark(0, -1), HillSeer.BAD);
        check.due("mark(6, 1)", x.mark(6, 1), HillSeer.BAD);
        check.due("mark(-1, 1)", x.mark(-1, 1), HillSeer.BAD);
        x.change(2, 8);
        check.due("mark(2, 2) behind a CHANGE", x.mark(2, 2), 2);
    }

    private static void fog() {
        HillSeer x = Check.camped("t941063584427 f119f031f007f107");
        int[] even = {2048, 8, 127, 3072};
        int[] odd = {2048, 0, 7, 3072};
        int[] marks = {1, 0, 3, 2};
        for (int day = 0; day < 3; day++) {
            for (int h = 0; h < 4; h++) {
                x.hill(h, 3);
                check.due("fog of DAY " + day + ", HILL " + h, x.asked(), day % 2 == 0 ? even[h] : odd[h]);
                check.due("its mark", x.mark(h, 3), marks[h]);
            }
            x.day();
        }
    }
}
