/** Promise 34: by turns the people and the king. */
public final class TurnsTest {
    private static final Check check = new Check();

    public static void main(String[] args) {
        check.due("king(0) without HILLS", new HillSeer().king(0), HillSeer.STATE);
        check.due("king(3) without HILLS", new HillSeer().king(3), HillSeer.BAD);
        HillSeer x = Check.camped("t354444444444h001");
        check.due("king(-1)", x.king(-1), HillSeer.BAD);
        check.due("king(3)", x.king(3), HillSeer.BAD);
        king("t354444444444h001", 0, 0, 0);
        king("t339444444444h001", 0, 1, 1);
        king("t333333333339h001", 0, 1, 1);
        king("t339339339339h001h031h061h091", 0, 1, 2);
        king("t000000000000h003h033", 0, 3, 5);
        king("t999999999999h003h033", 0, 0, 0);
        x = Check.camped(Check.THREE_HILLS);
        x.speak(0);
        check.due("king(0) with those of before", x.king(0), 3);
        long before = x.digest();
        check.due("king(2) with those of before", x.king(2), 3);
        check.due("digest()", x.digest(), before);
        check.end();
    }

    private static void king(String text, int... cursed) {
        HillSeer x = Check.camped(text);
        for (int n = 0; n <= 2; n++) {
            check.due("king(" + n + ") of " + text, x.king(n), cursed[n]);
        }
    }
}
