/** Promises 35 to 37: chances, means, LOTS. */
public final class ChancesTest {
    private static final Check check = new Check();

    public static void main(String[] args) {
        odds();
        mid();
        lots();
        check.end();
    }

    private static void odds() {
        HillSeer x = Check.camped(Check.ALL_KINDS);
        check.due("odds(0, 3)", x.odds(0, 3), 1);
        check.parts("odds(0, 3)", x, 3, 4);
        x.odds(1, 3);
        check.parts("odds(1, 3)", x, 1, 4);
        x.odds(0, 5);
        check.parts("odds(0, 5)", x, 7, 12);
        x.odds(0, 12);
        check.parts("odds(0, 12)", x, 0, 1);
        x.odds(1, 12);
        check.parts("odds(1, 12)", x, 1, 1);
        check.due("odds(0, 13)", x.odds(0, 13), HillSeer.BAD);
        check.due("odds(0, -1)", x.odds(0, -1), HillSeer.BAD);
        check.due("odds(6, 0)", x.odds(6, 0), HillSeer.BAD);
        check.due("odds(-1, 0)", x.odds(-1, 0), HillSeer.BAD);
        check.parts("behind BAD", x, 1, 1);
        HillSeer silent = Check.camped("t444444444444h001");
        silent.odds(0, 6);
        check.parts("odds(0, 6) of SILENCE", silent, 0, 1);
    }

    private static void mid() {
        check.due("mid(0) without HILLS", new HillSeer().mid(0), HillSeer.STATE);
        check.due("mid(13) without HILLS", new HillSeer().mid(13), HillSeer.BAD);
        HillSeer x = Check.camped("t000999444444h003h034h024");
        check.due("mid(-1)", x.mid(-1), HillSeer.BAD);
        check.due("mid(13)", x.mid(13), HillSeer.BAD);
        check.due("mid(3)", x.mid(3), 1);
        check.parts("mid(3)", x, 13, 4);
        x.mid(12);
        check.parts("mid(12)", x, 4, 1);
        x.speak(2);
        x.mid(3);
        check.parts("mid(3) behind a BLESSING, 21 by 12", x, 7, 4);
    }

    private static void lots() {
        check.due("lots(1, 1) without HILLS", new HillSeer().lots(1, 1), HillSeer.STATE);
        check.due("lots(0, 1) without HILLS", new HillSeer().lots(0, 1), HillSeer.BAD);
        HillSeer x = Check.camped(Check.ALL_KINDS);
        check.due("lots(0, 1)", x.lots(0, 1), HillSeer.BAD);
        check.due("lots(21, 1)", x.lots(21, 1), HillSeer.BAD);
        check.due("lots(1, 0)", x.lots(1, 0), HillSeer.BAD);
        check.due("lots(1, -5)", x.lots(1, -5), HillSeer.BAD);
        check.due("lots(1, 2147483647)", x.lots(1, 2147483647), HillSeer.BAD);
        for (int seed : new int[] {1, 77, 2147483646}) {
            HillSeer by = Check.camped(Check.ALL_KINDS);
            HillSeer own = Check.camped(Check.ALL_KINDS);
            long number = seed;
            for (int i = 0; i < 20; i++) {
                number = number * 48271L % 2147483647L;
                int it = (int) number;
                if (it / 8 % 4 == 0) {
                    own.day();
                } else if (it / 8 % 4 == 1) {
                    own.change(it % 12, it % 12 == 11 ? 0 : it % 12 + 1);
                } else {
                    own.speak(it % 6);
                }
            }
            check.due("lots(20, " + seed + ")", by.lots(20, seed), own.count(3));
            check.due("its digest()", by.digest(), own.digest());
            check.due("lots(20, 1), 40 DEEDS", by.lots(20, 1) >= 0 ? 1 : 0, 1);
            check.due("lots(1, 1) FULL", by.lots(1, 1), HillSeer.FULL);
            check.due("lots(0, 1) BAD first", by.lots(0, 1), HillSeer.BAD);
            check.due("undo(20)", by.undo(20), 20);
            check.due("digest() undone", by.digest(), own.digest());
        }
    }
}
