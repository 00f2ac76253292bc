/** Promises 25 to 28: orders of HILLS. */
public final class OrdersTest {
    private static final Check check = new Check();

    public static void main(String[] args) {
        mostAndFewest();
        howMany();
        rides();
        wrongNumbers();
        check.end();
    }

    private static void order(HillSeer x, int r, int... hills) {
        for (int i = 0; i < hills.length; i++) {
            x.at(r, i);
            check.due("place " + i + " of the order", x.asked(), hills[i]);
        }
        check.due("no more places", x.at(r, hills.length), HillSeer.FINDING);
    }

    private static void mostAndFewest() {
        HillSeer x = Check.camped(Check.THREE_HILLS);
        x.row(4, 9);
        check.due("curse(4)", x.curse(4), 3);
        order(x, 4, 0, 1, 2);
        check.due("spare(5)", x.spare(5), 2);
        order(x, 5, 1, 2, 0);
        check.due("count(8)", x.count(8), 2);
        check.due("count(2): aside", x.count(2), 0);
        x.speak(2);
        check.due("curse(4) behind a BLESSING", x.curse(4), 2);
        x.speak(0);
        check.due("spare(4) behind a CURSE", x.spare(4), 2);
        order(x, 4, 0, 1, 2);
    }

    private static void howMany() {
        HillSeer x = Check.camped(Check.THREE_HILLS);
        check.due("orders(3)", x.orders(3), 1);
        check.due("asked()", x.asked(), 7);
        check.parts("orders(3)", x, 3, 1);
        check.due("orders(2)", x.orders(2), 1);
        check.due("asked()", x.asked(), 3);
        check.parts("orders(2)", x, 3, 1);
        check.due("orders(12)", x.orders(12), 1);
        check.due("asked()", x.asked(), 0);
        check.parts("orders(12)", x, 0, 1);
        x.speak(0);
        x.orders(3);
        check.due("asked() with those of before", x.asked(), 7);
        check.parts("orders(3) then", x, 6, 1);
        HillSeer still = Check.camped("t444444444444h001h001h001h001h001h001");
        still.orders(0);
        check.due("asked() of none CURSED", still.asked(), 0);
        check.parts("orders(0)", still, 720, 1);
    }

    private static void rides() {
        HillSeer x = Check.camped(Check.THREE_HILLS);
        Check.fill(x, 0, 2, 0, 0);
        check.due("rides(0)", x.rides(0), 2);
        check.due("asked()", x.asked(), 6);
        x.speak(0);
        check.due("rides(0) then", x.rides(0), 3);
        check.due("asked() then", x.asked(), 9);
        x.row(0, 0);
        check.due("rides(0) of none", x.rides(0), 3);
        check.due("asked() of none", x.asked(), 3);
        x.row(0, 12);
        check.due("rides(0) of 12", x.rides(0), 3);
        check.due("asked() of 12", x.asked(), 39);
        x.row(0, 13);
        x.lay(0, 0, 9);
        check.refused("rides(0) of 13", x, x.rides(0), 5);
        Check.fill(x, 0, 0, 3);
        check.refused("rides(0) of no HILL", x, x.rides(0), 3);
        Check.fill(x, 0, -1);
        check.refused("rides(0) of -1", x, x.rides(0), 3);
        check.refused("rides(1)", x, x.rides(1), 1);
        check.due("count(2)", x.count(2), 1);
        HillSeer silent = Check.camped("t444444444444h001");
        silent.row(0, 2);
        silent.rides(0);
        check.due("asked() of SILENCE", silent.asked(), 2);
    }

    private static void wrongNumbers() {
        HillSeer none = new HillSeer();
        check.due("curse(0) without HILLS", none.curse(0), HillSeer.STATE);
        check.due("spare(0) without HILLS", none.spare(0), HillSeer.STATE);
        check.due("orders(0) without HILLS", none.orders(0), HillSeer.STATE);
        check.due("rides(0) without HILLS", none.rides(0), HillSeer.STATE);
        check.due("finding()", none.finding(), 0);
        for (int r = -1; r <= 6; r += 7) {
            check.due("curse(" + r + ")", none.curse(r), HillSeer.BAD);
            check.due("spare(" + r + ")", none.spare(r), HillSeer.BAD);
            check.due("rides(" + r + ")", none.rides(r), HillSeer.BAD);
        }
        check.due("orders(-1)", none.orders(-1), HillSeer.BAD);
        check.due("orders(13)", none.orders(13), HillSeer.BAD);
        check.due("count(8)", none.count(8), 0);
    }
}
