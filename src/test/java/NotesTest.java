/** Promises 31 to 33: from where it was said. */
public final class NotesTest {
    private static final Check check = new Check();

    public static void main(String[] args) {
        fits();
        wrongNotes();
        wrongNumbers();
        check.end();
    }

    private static void fits() {
        HillSeer x = Check.camped(Check.ALL_KINDS);
        Check.fill(x, 0, 0, 1, 1, 2);
        check.due("from(0)", x.from(0), 8);
        check.due("kinds(3, 0)", x.kinds(3, 0), 8);
        check.due("given(10, 3, 0)", x.given(10, 3, 0), 12);
        check.due("given(0, 3, 0)", x.given(0, 3, 0), 1023);
        check.due("given(0, 1, 0)", x.given(0, 1, 0), 0);
        Check.fill(x, 0, 5, 2);
        check.due("from(0) of a CURSE", x.from(0), 25);
        Check.fill(x, 0, 0, 1);
        check.due("kinds(3, 0) of a BLESSING", x.kinds(3, 0), 45);
        Check.fill(x, 0, 98, 0);
        check.due("given(4, 0, 0) of SILENCE", x.given(4, 0, 0), 0);
        check.due("given(9, 1, 0) of SILENCE", x.given(9, 1, 0), 2);
        check.due("given(11, 1, 0) of SILENCE", x.given(11, 1, 0), 16);
        Check.fill(x, 0);
        check.due("from(0) of none", x.from(0), 63);
        check.due("kinds(0, 0) of none", x.kinds(0, 0), 63);
        check.due("given(0, 0, 0) of none", x.given(0, 0, 0), 1023);
        x.tent(10, 0);
        check.due("GIVEN as before", x.asked(), -2);
        HillSeer none = new HillSeer();
        none.row(0, 2);
        check.due("from(0) without HILLS", none.from(0), 0);
    }

    private static void wrongNotes() {
        HillSeer x = Check.camped(Check.ALL_KINDS);
        refused(x, 1);
        Check.fill(x, 0, 100, 3, 0);
        refused(x, 5);
        x.row(0, 18);
        x.lay(0, 1, 9);
        refused(x, 5);
        Check.fill(x, 0, 100, 1);
        refused(x, 3);
        Check.fill(x, 0, -1, 1);
        refused(x, 3);
        Check.fill(x, 0, 0, 3);
        refused(x, 3);
        Check.fill(x, 0, 0, 2, 0, -1);
        refused(x, 3);
        Check.fill(x, 0, 99, 2, 99, 2, 99, 2, 99, 2, 99, 2, 99, 2, 99, 2, 99, 2);
        check.due("from(0) of eight pairs", x.from(0), 25);
        check.due("findings(1)", x.findings(1), 3);
        check.due("findings(5)", x.findings(5), 6);
        check.due("findings(3)", x.findings(3), 12);
    }

    private static void refused(HillSeer x, int finding) {
        check.refused("from(0)", x, x.from(0), finding);
        check.refused("kinds(0, 0)", x, x.kinds(0, 0), finding);
        check.refused("given(0, 0, 0)", x, x.given(0, 0, 0), finding);
    }

    private static void wrongNumbers() {
        HillSeer x = Check.camped(Check.THREE_HILLS);
        for (int r = -1; r <= 6; r += 7) {
            check.due("from(" + r + ")", x.from(r), HillSeer.BAD);
            check.due("kinds(0, " + r + ")", x.kinds(0, r), HillSeer.BAD);
            check.due("given(0, 0, " + r + ")", x.given(0, 0, r), HillSeer.BAD);
        }
        for (int h = -1; h <= 3; h += 4) {
            check.due("kinds(" + h + ", 0)", x.kinds(h, 0), HillSeer.BAD);
            check.due("given(0, " + h + ", 0)", x.given(0, h, 0), HillSeer.BAD);
        }
        check.due("given(-1, 0, 0)", x.given(-1, 0, 0), HillSeer.BAD);
        check.due("given(12, 0, 0)", x.given(12, 0, 0), HillSeer.BAD);
        check.due("finding()", x.finding(), 0);
    }
}
