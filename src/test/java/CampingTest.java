/** Promises 29 and 30: how to camp so that all HILLS BLESS, FEES. */
public final class CampingTest {
    private static final Check check = new Check();

    public static void main(String[] args) {
        blessed();
        fees();
        check.end();
    }

    private static void blessed(String text, int want, int asked) {
        HillSeer x = Check.camped(text);
        x.row(0, 1);
        x.lay(0, 0, 77);
        x.at(0, 0);
        long before = x.digest();
        check.due("blessed() of " + text, x.blessed(), want);
        check.due("asked()", x.asked(), asked);
        check.due("digest() is as before", x.digest(), before);
    }

    private static void blessed() {
        check.due("blessed() without HILLS", new HillSeer().blessed(), HillSeer.STATE);
        blessed("t594444444444h001", 0, HillSeer.NONE);
        blessed("t327444484444h001", 1, 2);
        blessed("t327444484444h001h011", 2, 2);
        blessed("t327444444444h001h011", HillSeer.NONE, 77);
        blessed("t444444444445h101h111", HillSeer.NONE, 77);
        blessed("t444444444455h091", 1, 12 * 9 + 10);
        HillSeer fog = Check.camped("t444444444459f102");
        check.due("blessed() of fog", fog.blessed(), 0);
        fog.change(10, 0);
        fog.day();
        check.due("blessed() of fog on an odd DAY", fog.blessed(), 1);
        check.due("asked()", fog.asked(), 10);
    }

    private static void fees() {
        check.due("fees without HILLS", new HillSeer().fees(0, 0, 0, 0), HillSeer.STATE);
        check.due("fees(10, ..) without HILLS", new HillSeer().fees(10, 0, 0, 0), HillSeer.BAD);
        HillSeer x = Check.camped(Check.ALL_KINDS);
        check.due("fees(2, 0, 0, 9)", x.fees(2, 0, 0, 9), 18);
        check.due("asked()", x.asked(), 0);
        check.due("fees(9, 0, 5, 4)", x.fees(9, 0, 5, 4), 45);
        check.due("asked()", x.asked(), 1);
        check.due("fees(1, 9, 0, 0)", x.fees(1, 9, 0, 0), 0);
        check.due("asked()", x.asked(), 0);
        HillSeer fog = Check.camped("t444444444427f103");
        check.due("fees(3, 0, 1, 5)", fog.fees(3, 0, 1, 5), 7);
        fog.day();
        check.due("fees(3, 0, 1, 5) on an odd DAY", fog.fees(3, 0, 1, 5), 11);
        check.due("asked()", fog.asked(), 0);
        check.due("fees(0, 9, 9, 9)", fog.fees(0, 9, 9, 9), 0);
        check.due("asked()", fog.asked(), HillSeer.NONE);
        check.due("fees(-1, ..)", fog.fees(-1, 0, 0, 0), HillSeer.BAD);
        check.due("fees(10, ..)", fog.fees(10, 0, 0, 0), HillSeer.BAD);
        for (int fee = -1; fee <= 10; fee += 11) {
            check.due("fees of silence " + fee, fog.fees(1, fee, 0, 0), HillSeer.BAD);
            check.due("fees of a blessing " + fee, fog.fees(1, 0, fee, 0), HillSeer.BAD);
            check.due("fees of a curse " + fee, fog.fees(1, 0, 0, fee), HillSeer.BAD);
        }
        check.due("count(1): aside", fog.count(1), 1);
        check.due("count(3): aside", fog.count(3), 0);
        HillSeer silent = Check.camped("t444444444444h001");
        check.due("fees(2, 7, 9, 9) of SILENCE", silent.fees(2, 7, 9, 9), 14);
    }
}
