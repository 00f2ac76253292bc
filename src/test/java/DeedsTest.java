/** Promises 15 to 20: DEEDS, what is undone, CAMPS that are kept. */
public final class DeedsTest {
    private static final Check check = new Check();

    public static void main(String[] args) {
        deeds();
        silence();
        undoneFromEachNumber();
        wrongNumbers();
        full();
        check.end();
    }

    private static void state(String when, HillSeer x, int... counts) {
        for (int what = 1; what <= 5; what++) {
            check.due(when + " count(" + what + ")", x.count(what), counts[what - 1]);
        }
    }

    private static void deeds() {
        HillSeer x = Check.camped(Check.ALL_KINDS);
        long first = x.digest();
        check.due("speak(0)", x.speak(0), 2);
        state("a CURSE", x, 0, 1, 3, 0, 60);
        check.due("speak(2)", x.speak(2), 1);
        state("a BLESSING", x, 0, 2, 3, 194, 60);
        check.due("speak(1)", x.speak(1), 1);
        state("another one", x, 0, 3, 3, 2754, 60);
        check.due("day()", x.day(), 1);
        check.due("speak(3)", x.speak(3), 2);
        state("by fog", x, 1, 5, 6, 2754, 1084);
        check.due("change(3, 7)", x.change(3, 7), 39);
        state("a CHANGE", x, 1, 6, 6, 2634, 1204);
        x.tent(3, 0);
        check.due("GIVEN of 3", x.asked(), 4);
        x.tent(7, 0);
        check.due("GIVEN of 7", x.asked(), -4);
        check.due("keep(1)", x.keep(1), 6);
        long sixth = x.digest();
        check.due("undo(7)", x.undo(7), HillSeer.BAD);
        check.due("undo(-1)", x.undo(-1), HillSeer.BAD);
        check.due("undo(6) of six", x.undo(6), 0);
        check.due("digest() as it was, of six", x.digest(), sixth);
        check.due("undo(3)", x.undo(3), 3);
        state("undone", x, 0, 3, 3, 2754, 60);
        x.tent(3, 0);
        check.due("GIVEN of 3 again", x.asked(), -4);
        check.due("day()", x.day(), 1);
        check.due("day()", x.day(), 2);
        check.due("on(1)", x.on(1), 6);
        check.due("digest() as it was kept", x.digest(), sixth);
        check.due("undo(5) of a kept one", x.undo(5), 1);
        state("behind it", x, 1, 5, 6, 2754, 1084);
        check.due("on(1) again", x.on(1), 6);
        check.due("digest() as it was kept, again", x.digest(), sixth);
        check.due("undo(0)", x.undo(0), 6);
        state("all undone", x, 0, 0, 0, 0, 0);
        check.due("keep(1) over it", x.keep(1), 0);
        check.due("count(10)", x.count(10), 1);
        check.due("undo(0) of none", x.undo(0), 0);
        check.due("undo(1) of none", x.undo(1), HillSeer.BAD);
        check.due("count(2) of none", x.count(2), 0);
        HillSeer y = Check.camped(Check.ALL_KINDS);
        y.keep(1);
        check.due("digest() as at first", x.digest(), y.digest());
        check.due("digest() tells what is kept", x.digest() != first ? 1 : 0, 1);
    }

    private static void silence() {
        HillSeer x = Check.camped("t354444444444 h002h012");
        check.due("speak(0) of SILENCE", x.speak(0), 0);
        state("SILENCE", x, 0, 1, 1, 0, 0);
        check.due("speak(1)", x.speak(1), 1);
        check.due("change(0, 5)", x.change(5, 0), 3);
        state("then", x, 0, 3, 1, 6, 0);
        check.due("change(1, 2) of like fates", x.change(1, 2), 2);
        state("and then", x, 0, 4, 1, 6, 0);
    }

    private static HillSeer campWithDeeds(int many) {
        HillSeer x = Check.camped(Check.ALL_KINDS);
        for (int d = 0; d < many; d++) {
            if (d % 3 == 0) {
                x.speak(d % 6);
            } else if (d % 3 == 1) {
                x.change(d % 12, (5 * d + 2) % 12 == d % 12 ? (d + 1) % 12 : (5 * d + 2) % 12);
            } else {
                x.day();
            }
        }
        check.due("DEEDS that were done", x.count(2), many);
        return x;
    }

    /** As many are undone as there are from n on, none too; a number behind these is BAD. */
    private static void undoneFromEachNumber() {
        for (int done = 0; done <= 40; done++) {
            for (int n = 0; n <= done; n++) {
                HillSeer x = campWithDeeds(done);
                check.due("undo(" + (done + 1) + ") of " + done, x.undo(done + 1), HillSeer.BAD);
                check.due("undo(-1) of " + done, x.undo(-1), HillSeer.BAD);
                check.due("undo(" + n + ") of " + done, x.undo(n), done - n);
                check.due("undo(" + n + ") again", x.undo(n), 0);
                check.due("its digest()", x.digest(), campWithDeeds(n).digest());
            }
        }
        HillSeer none = new HillSeer();
        long before = none.digest();
        check.due("undo(0) without HILLS", none.undo(0), 0);
        check.due("undo(1) without HILLS", none.undo(1), HillSeer.BAD);
        check.due("undo(-1) without HILLS", none.undo(-1), HillSeer.BAD);
        check.due("undo of the most without HILLS", none.undo(Integer.MAX_VALUE), HillSeer.BAD);
        check.due("undo of the least without HILLS", none.undo(Integer.MIN_VALUE), HillSeer.BAD);
        check.due("digest() without HILLS", none.digest(), before);
    }

    private static void wrongNumbers() {
        HillSeer none = new HillSeer();
        check.due("speak(0) without HILLS", none.speak(0), HillSeer.BAD);
        check.due("day() without HILLS", none.day(), HillSeer.STATE);
        check.due("change(0, 1) without HILLS", none.change(0, 1), HillSeer.STATE);
        check.due("change(0, 0) without HILLS", none.change(0, 0), HillSeer.BAD);
        check.due("keep(0) without HILLS", none.keep(0), HillSeer.STATE);
        check.due("keep(3) without HILLS", none.keep(3), HillSeer.BAD);
        check.refused("on(0) without HILLS", none, none.on(0), 1);
        HillSeer x = Check.camped(Check.THREE_HILLS);
        check.due("speak(3)", x.speak(3), HillSeer.BAD);
        check.due("speak(-1)", x.speak(-1), HillSeer.BAD);
        check.due("change(12, 0)", x.change(12, 0), HillSeer.BAD);
        check.due("change(0, 12)", x.change(0, 12), HillSeer.BAD);
        check.due("change(-1, 0)", x.change(-1, 0), HillSeer.BAD);
        check.due("change(0, -1)", x.change(0, -1), HillSeer.BAD);
        check.due("change(4, 4)", x.change(4, 4), HillSeer.BAD);
        check.due("keep(-1)", x.keep(-1), HillSeer.BAD);
        check.due("keep(3)", x.keep(3), HillSeer.BAD);
        check.due("on(-1)", x.on(-1), HillSeer.BAD);
        check.due("on(3)", x.on(3), HillSeer.BAD);
        check.refused("on(2)", x, x.on(2), 1);
        check.due("count(2)", x.count(2), 0);
    }

    private static void full() {
        HillSeer x = Check.camped(Check.THREE_HILLS);
        for (int i = 1; i <= 39; i++) {
            x.day();
        }
        check.due("the 40th", x.speak(0), 2);
        check.due("day() FULL", x.day(), HillSeer.FULL);
        check.due("speak(0) FULL", x.speak(0), HillSeer.FULL);
        check.due("change(0, 1) FULL", x.change(0, 1), HillSeer.FULL);
        check.due("speak(3) BAD first", x.speak(3), HillSeer.BAD);
        check.due("change(1, 1) BAD first", x.change(1, 1), HillSeer.BAD);
        state("FULL", x, 39, 40, 3, 0, 7);
        check.due("keep(0)", x.keep(0), 40);
        check.due("undo(39)", x.undo(39), 1);
        check.due("day()", x.day(), 40);
        check.due("on(0)", x.on(0), 40);
        state("FULL again", x, 39, 40, 3, 0, 7);
    }
}
