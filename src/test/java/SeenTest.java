/** Promises 21 to 24: what is SEEN. */
public final class SeenTest {
    private static final Check check = new Check();

    public static void main(String[] args) {
        only();
        hiddenAndFewest();
        waits();
        check.end();
    }

    private static void only() {
        HillSeer x = Check.camped(Check.ALL_KINDS);
        check.due("only(0, 2)", x.only(0, 2), 44);
        check.due("asked()", x.asked(), 3);
        check.due("only(5, 1)", x.only(5, 1), 448);
        check.due("asked()", x.asked(), 3);
        check.due("only(1, 5)", x.only(1, 5), 0);
        check.due("asked()", x.asked(), 0);
        x.hill(0, 2);
        check.due("only(3, 3)", x.only(3, 3), HillSeer.BAD);
        check.due("only(6, 0)", x.only(6, 0), HillSeer.BAD);
        check.due("only(-1, 0)", x.only(-1, 0), HillSeer.BAD);
        check.due("only(0, 6)", x.only(0, 6), HillSeer.BAD);
        check.due("only(0, -1)", x.only(0, -1), HillSeer.BAD);
        check.due("asked() behind BAD", x.asked(), 4);
        x.day();
        check.due("only(3, 4) on an odd DAY", x.only(3, 4), 0);
    }

    private static void hiddenAndFewest() {
        HillSeer none = new HillSeer();
        check.due("hidden() without HILLS", none.hidden(), HillSeer.STATE);
        check.due("fewest() without HILLS", none.fewest(), HillSeer.STATE);
        HillSeer x = Check.camped(Check.ALL_KINDS);
        check.due("hidden()", x.hidden(), 1);
        check.due("fewest()", x.fewest(), 4);
        check.due("asked()", x.asked(), 23);
        HillSeer three = Check.camped("t000999444444h003h033h033");
        check.due("hidden()", three.hidden(), 4095 - 63);
        check.due("fewest() of alike", three.fewest(), 2);
        check.due("asked()", three.asked(), 3);
        HillSeer blind = Check.camped("t000000000000w009r039f051");
        blind.day();
        check.due("hidden() all", blind.hidden(), 4095);
        check.due("fewest() of nothing", blind.fewest(), 0);
        check.due("asked()", blind.asked(), 0);
    }

    private static void waits() {
        HillSeer x = Check.camped(Check.ALL_KINDS);
        check.due("waits(3, 1)", x.waits(3, 1), 0);
        check.due("waits(3, 0)", x.waits(3, 0), 1);
        check.due("waits(3, 2)", x.waits(3, 2), 5);
        long before = x.digest();
        check.due("waits(2, 2)", x.waits(2, 2), HillSeer.NONE);
        check.due("digest()", x.digest(), before);
        x.day();
        check.due("waits(3, 2) on an odd DAY", x.waits(3, 2), 0);
        HillSeer one = Check.camped("t494444444444h001");
        check.due("waits(0, 1): 11 DAYS", one.waits(0, 1), 11);
        check.due("waits(0, 2)", one.waits(0, 2), HillSeer.NONE);
        check.due("waits(0, 3)", one.waits(0, 3), HillSeer.BAD);
        check.due("waits(0, -1)", one.waits(0, -1), HillSeer.BAD);
        check.due("waits(1, 0)", one.waits(1, 0), HillSeer.BAD);
        check.due("waits(-1, 0)", one.waits(-1, 0), HillSeer.BAD);
    }
}
