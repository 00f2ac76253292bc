import java.util.ArrayList;
import java.util.List;
import java.util.function.ToIntFunction;

/** 'Terms', sentence by sentence, but for the language: what refused means, FINDINGS, DEEDS, LOTS. */
final class EdgesOfTerms {
    private final Edges edges;

    EdgesOfTerms(Edges edges) {
        this.edges = edges;
    }

    void all() {
        calls();
        refused();
        changesNothing();
        nothing();
        beyondAndUnlike();
        noughtAndSize();
        lowestTerms();
        bits();
        rowsAndTexts();
        atFirst();
        speaks();
        daysAndFates();
        changes();
        deeds();
        lots();
        parts();
    }

    private void calls() {
        edges.of(0, "An object is used for at most 512 calls after it has been made; what later calls answer is free.");
        HillSeer x = new HillSeer();
        for (int call = 1; call <= 511; call++) {
            edges.due("call " + call, x.at(0, 0), Edges.FINDING);
        }
        edges.due("call 512", x.findings(1), 511);
    }

    private void refused() {
        edges.of(0, "Refused is, the first of these that fits, in this order: BAD -1 (a number that is none, or not as"
                + " told), FULL -2, STATE -4 (not now), SPENT -6 (more than told), FINDING -3 (finding() tells which),"
                + " unless a call says so otherwise.");
        edges.due("BAD", HillSeer.BAD, -1);
        edges.due("FULL", HillSeer.FULL, -2);
        edges.due("STATE", HillSeer.STATE, -4);
        edges.due("SPENT", HillSeer.SPENT, -6);
        edges.due("FINDING", HillSeer.FINDING, -3);
        edges.bad(Edges.fullCamp(Check.ALL_KINDS), "speak(6) of 40 DEEDS", x -> x.speak(6));
        edges.bad(Edges.fullCamp(Check.ALL_KINDS), "change(0, 0) of 40 DEEDS", x -> x.change(0, 0));
        edges.bad(Edges.fullCamp(Check.ALL_KINDS), "lots(0, 1) of 40 DEEDS", x -> x.lots(0, 1));
        edges.bad(Edges.NEW, "tent(12, 0) without HILLS", x -> x.tent(12, 0));
        edges.bad(Edges.NEW, "tent(0, 3) without HILLS", x -> x.tent(0, 3));
        edges.bad(Edges.NEW, "change(0, 0) without HILLS", x -> x.change(0, 0));
        edges.bad(Edges.NEW, "keep(3) without HILLS", x -> x.keep(3));
        edges.bad(Edges.NEW, "curse(6) without HILLS", x -> x.curse(6));
        edges.bad(Edges.NEW, "spare(6) without HILLS", x -> x.spare(6));
        edges.bad(Edges.NEW, "orders(13) without HILLS", x -> x.orders(13));
        edges.bad(Edges.NEW, "rides(6) without HILLS", x -> x.rides(6));
        edges.bad(Edges.NEW, "fees(10, 0, 0, 0) without HILLS", x -> x.fees(10, 0, 0, 0));
        edges.bad(Edges.NEW, "king(3) without HILLS", x -> x.king(3));
        edges.bad(Edges.NEW, "mid(13) without HILLS", x -> x.mid(13));
        edges.bad(Edges.NEW, "lots(21, 1) without HILLS", x -> x.lots(21, 1));
        edges.bad(Edges.NEW, "row(6, -1)", x -> x.row(6, -1));
        edges.bad(Edges.NEW, "copy(6, 0, 0, 0, -1)", x -> x.copy(6, 0, 0, 0, -1));
        edges.bad(Edges.NEW, "text(4, -1)", x -> x.text(4, -1));
        edges.bad(Edges.NEW, "given(0, 0, 0) without HILLS, without a ROW", x -> x.given(0, 0, 0));
        edges.bad(Edges.NEW, "kinds(0, 0) without HILLS, without a ROW", x -> x.kinds(0, 0));
        edges.bad(Edges.camp(Check.ALL_KINDS), "mark(6, 1)", x -> x.mark(6, 1));
        edges.state(Edges.NEW, "rides(0) without HILLS, without a ROW", x -> x.rides(0));
        edges.finds(Edges.NOTHING, Edges.NEW, "camp(0) without a TEXT", x -> x.camp(0));
        edges.of(0, "NONE -9.");
        edges.due("NONE", HillSeer.NONE, -9);
        edges.due("waits(0, 2)", Check.camped("t444444444444h001").waits(0, 2), -9);
    }

    private record Asked(String call, ToIntFunction<HillSeer> asks) { }

    /** A refusal of each call that can be refused, by each of the ways that it names. */
    private static List<Asked> refusals() {
        List<Asked> all = new ArrayList<>();
        all.add(new Asked("row(1, 41)", x -> x.row(1, 41)));
        all.add(new Asked("row(1, -1)", x -> x.row(1, -1)));
        all.add(new Asked("lay(6, 0, 1)", x -> x.lay(6, 0, 1)));
        all.add(new Asked("lay(0, 0, 1)", x -> x.lay(0, 0, 1)));
        all.add(new Asked("lay(1, 3, 1)", x -> x.lay(1, 3, 1)));
        all.add(new Asked("at(0, 0)", x -> x.at(0, 0)));
        all.add(new Asked("at(1, 3)", x -> x.at(1, 3)));
        all.add(new Asked("tear(0)", x -> x.tear(0)));
        all.add(new Asked("copy(1, 0, 0, 0, 1)", x -> x.copy(1, 0, 0, 0, 1)));
        all.add(new Asked("copy(1, 0, 5, 0, 2)", x -> x.copy(1, 0, 5, 0, 2)));
        all.add(new Asked("copy(1, 0, 5, 0, -1)", x -> x.copy(1, 0, 5, 0, -1)));
        all.add(new Asked("mean(0)", x -> x.mean(0)));
        all.add(new Asked("mean(2)", x -> x.mean(2)));
        all.add(new Asked("text(0, 61)", x -> x.text(0, 61)));
        all.add(new Asked("text(0, -1)", x -> x.text(0, -1)));
        all.add(new Asked("put(0, 60, 1)", x -> x.put(0, 60, 1)));
        all.add(new Asked("put(3, 0, 1)", x -> x.put(3, 0, 1)));
        all.add(new Asked("fault(3)", x -> x.fault(3)));
        all.add(new Asked("camp(4)", x -> x.camp(4)));
        all.add(new Asked("camp(3)", x -> x.camp(3)));
        all.add(new Asked("camp(1)", x -> x.camp(1)));
        all.add(new Asked("camp(2)", x -> x.camp(2)));
        all.add(new Asked("hill(0, 6)", x -> x.hill(0, 6)));
        all.add(new Asked("tent(0, 3)", x -> x.tent(0, 3)));
        all.add(new Asked("mark(0, 0)", x -> x.mark(0, 0)));
        all.add(new Asked("mark(0, 1)", x -> x.mark(0, 1)));
        all.add(new Asked("speak(6)", x -> x.speak(6)));
        all.add(new Asked("change(3, 3)", x -> x.change(3, 3)));
        all.add(new Asked("change(3, 12)", x -> x.change(3, 12)));
        all.add(new Asked("undo(6)", x -> x.undo(6)));
        all.add(new Asked("undo(-1)", x -> x.undo(-1)));
        all.add(new Asked("keep(3)", x -> x.keep(3)));
        all.add(new Asked("on(3)", x -> x.on(3)));
        all.add(new Asked("on(1)", x -> x.on(1)));
        all.add(new Asked("only(0, 0)", x -> x.only(0, 0)));
        all.add(new Asked("waits(0, 3)", x -> x.waits(0, 3)));
        all.add(new Asked("curse(6)", x -> x.curse(6)));
        all.add(new Asked("spare(-1)", x -> x.spare(-1)));
        all.add(new Asked("orders(13)", x -> x.orders(13)));
        all.add(new Asked("rides(0)", x -> x.rides(0)));
        all.add(new Asked("rides(3)", x -> x.rides(3)));
        all.add(new Asked("rides(4)", x -> x.rides(4)));
        all.add(new Asked("fees(1, 0, 0, 10)", x -> x.fees(1, 0, 0, 10)));
        all.add(new Asked("from(1)", x -> x.from(1)));
        all.add(new Asked("kinds(0, 1)", x -> x.kinds(0, 1)));
        all.add(new Asked("given(0, 0, 1)", x -> x.given(0, 0, 1)));
        all.add(new Asked("given(0, 0, 0)", x -> x.given(0, 0, 0)));
        all.add(new Asked("king(3)", x -> x.king(3)));
        all.add(new Asked("odds(0, 13)", x -> x.odds(0, 13)));
        all.add(new Asked("mid(13)", x -> x.mid(13)));
        all.add(new Asked("lots(20, 0)", x -> x.lots(20, 0)));
        all.add(new Asked("count(11)", x -> x.count(11)));
        all.add(new Asked("findings(6)", x -> x.findings(6)));
        return all;
    }

    /** A CAMP with 5 DEEDS, kept in two places; ROW 0, TEXT 3 are missing, TEXTS 1 and 2 have a FAULT. */
    private static HillSeer busy() {
        HillSeer x = Edges.camped(Check.ALL_KINDS);
        Check.fill(x, 1, 4, 5, 6);
        x.row(2, 0);
        x.row(3, 13);
        Check.fill(x, 4, 0, 6);
        Check.write(x, 1, "t00000000000");
        Check.write(x, 2, "t000000000000h001x");
        x.keep(0);
        x.speak(0);
        x.day();
        x.change(2, 7);
        x.keep(2);
        x.speak(3);
        x.day();
        x.at(5, 0);
        return x;
    }

    /** All that later calls can show of an object; kept CAMPS and what was done ahead, too. */
    private static String whole(HillSeer x) {
        StringBuilder all = new StringBuilder(Edges.told(x));
        for (int n = 4; n >= 0; n--) {
            x.undo(n);
            all.append(' ').append(x.digest());
        }
        for (int k = 0; k <= 2; k++) {
            all.append(' ').append(x.on(k)).append(' ').append(x.digest());
        }
        return all.toString();
    }

    private void changesNothing() {
        edges.of(0, "What is refused changes nothing but finding(), findings().");
        String before = whole(busy());
        for (Asked refusal : refusals()) {
            HillSeer x = busy();
            int answer = refusal.asks().applyAsInt(x);
            edges.due(refusal.call() + " is refused", answer == Edges.BAD || answer == Edges.STATE
                    || answer == Edges.FINDING ? 1 : 0, 1);
            edges.due(refusal.call() + " = " + answer + " changes nothing", whole(x).equals(before) ? 1 : 0, 1);
        }
        String full = whole(Edges.fullCamp(Check.ALL_KINDS).get());
        for (int call = 0; call < 4; call++) {
            HillSeer x = Edges.fullCamp(Check.ALL_KINDS).get();
            int answer = call == 0 ? x.speak(0) : call == 1 ? x.day() : call == 2 ? x.change(0, 1) : x.lots(1, 1);
            edges.due("FULL", answer, Edges.FULL);
            edges.due("FULL changes nothing", whole(x).equals(full) ? 1 : 0, 1);
        }
    }

    private void nothing() {
        edges.of(0, "FINDINGS: 1 NOTHING (a ROW, a TEXT, a kept CAMP that is missing),");
        edges.finds(1, EdgesOfTerms::busy, "lay(0, 0, 1)", x -> x.lay(0, 0, 1));
        edges.finds(1, EdgesOfTerms::busy, "at(0, 0)", x -> x.at(0, 0));
        edges.finds(1, EdgesOfTerms::busy, "tear(0)", x -> x.tear(0));
        edges.finds(1, EdgesOfTerms::busy, "copy(0, 0, 1, 0, 1)", x -> x.copy(0, 0, 1, 0, 1));
        edges.finds(1, EdgesOfTerms::busy, "mean(0)", x -> x.mean(0));
        edges.finds(1, EdgesOfTerms::busy, "put(3, 0, 1)", x -> x.put(3, 0, 1));
        edges.finds(1, EdgesOfTerms::busy, "fault(3)", x -> x.fault(3));
        edges.finds(1, EdgesOfTerms::busy, "camp(3)", x -> x.camp(3));
        edges.finds(1, EdgesOfTerms::busy, "on(1)", x -> x.on(1));
        edges.finds(1, EdgesOfTerms::busy, "rides(0)", x -> x.rides(0));
        edges.finds(1, EdgesOfTerms::busy, "from(0)", x -> x.from(0));
        edges.finds(1, EdgesOfTerms::busy, "kinds(0, 0)", x -> x.kinds(0, 0));
        edges.finds(1, EdgesOfTerms::busy, "given(0, 0, 0)", x -> x.given(0, 0, 0));
    }

    private void beyondAndUnlike() {
        edges.of(0, "2 BEYOND (a place of a ROW, a TEXT that there is not),");
        edges.finds(2, EdgesOfTerms::busy, "lay(1, 3, 1)", x -> x.lay(1, 3, 1));
        edges.finds(2, EdgesOfTerms::busy, "at(2, 0)", x -> x.at(2, 0));
        edges.finds(2, EdgesOfTerms::busy, "copy(1, 0, 2, 0, 1)", x -> x.copy(1, 0, 2, 0, 1));
        edges.finds(2, EdgesOfTerms::busy, "put(1, 12, 1)", x -> x.put(1, 12, 1));
        edges.of(0, "3 UNLIKE (a HILL of another KIND; a number that is none),");
        edges.finds(3, EdgesOfTerms::busy, "mark(0, 1)", x -> x.mark(0, 1));
        edges.finds(3, EdgesOfTerms::busy, "rides(4)", x -> x.rides(4));
        edges.finds(3, EdgesOfTerms::busy, "from(4)", x -> x.from(4));
        edges.finds(3, EdgesOfTerms::busy, "kinds(0, 4)", x -> x.kinds(0, 4));
        edges.finds(3, EdgesOfTerms::busy, "given(0, 0, 4)", x -> x.given(0, 0, 4));
    }

    private void noughtAndSize() {
        edges.of(0, "4 NOUGHT (shared among none),");
        edges.finds(4, EdgesOfTerms::busy, "mean(2)", x -> x.mean(2));
        edges.of(0, "5 SIZE (fewer than none; too many, not as many as due).");
        edges.finds(5, EdgesOfTerms::busy, "row(1, -1)", x -> x.row(1, -1));
        edges.finds(5, EdgesOfTerms::busy, "text(1, -1)", x -> x.text(1, -1));
        edges.finds(5, EdgesOfTerms::busy, "copy(1, 0, 1, 0, -1)", x -> x.copy(1, 0, 1, 0, -1));
        edges.finds(5, EdgesOfTerms::busy, "rides(3) of 13", x -> x.rides(3));
        edges.finds(5, EdgesOfTerms::busy, "from(1) of 3", x -> x.from(1));
        edges.finds(5, EdgesOfTerms::busy, "kinds(0, 5) of 1", x -> x.kinds(0, 5));
        edges.finds(5, EdgesOfTerms::busy, "given(0, 0, 3) of 13", x -> x.given(0, 0, 3));
    }

    private void lowestTerms() {
        edges.of(0, "Chances, means, numbers of orders are told by upper(), lower(), in lowest terms, the lower number"
                + " above 0 (0 by 1).");
        int[][] parts = {{0, 1}, {1, 12}, {1, 6}, {1, 4}, {1, 3}, {5, 12}, {1, 2}, {7, 12}, {2, 3}, {3, 4}, {5, 6},
            {11, 12}, {1, 1}};
        HillSeer x = Check.camped("t544444444444h001");
        HillSeer y = Check.camped("t344444444444h001");
        for (int p = 0; p <= 12; p++) {
            x.odds(0, p);
            edges.parts("odds(0, " + p + ") of a BLESSING", x, parts[p][0], parts[p][1]);
            x.mid(p);
            edges.parts("mid(" + p + ") of a BLESSING", x, parts[p][0], parts[p][1]);
            y.odds(0, p);
            edges.parts("odds(0, " + p + ") of a CURSE", y, parts[12 - p][0], parts[12 - p][1]);
        }
        y.orders(1);
        edges.parts("orders(1)", y, 1, 1);
        y.odds(0, 1);
        y.orders(0);
        edges.parts("orders(0)", y, 0, 1);
    }

    private void bits() {
        edges.of(0, "Sets (of TENTS, of HILLS, of KINDS) are told by bits.");
        HillSeer x = Check.camped("t544444444445h001h001h001h001h001r111");
        edges.tells("hill(0, 3)", x, x.hill(0, 3), 1);
        edges.tells("hill(5, 3)", x, x.hill(5, 3), 2048);
        edges.tells("tent(0, 2)", x, x.tent(0, 2), 31);
        edges.tells("tent(11, 2)", x, x.tent(11, 2), 32);
        edges.due("hidden()", x.hidden(), 4095 - 2049);
        edges.due("only(5, 0)", x.only(5, 0), 2048);
        Check.fill(x, 0, 0, 0);
        edges.due("from(0)", x.from(0), 32);
        edges.due("kinds(5, 0)", x.kinds(5, 0), 32);
        edges.due("given(0, 0, 0)", x.given(0, 0, 0), 16);
        Check.fill(x, 0, 0, 1);
        edges.due("kinds(5, 0) of a BLESSING", x.kinds(5, 0), 31);
        edges.due("change(0, 11)", x.change(0, 11), 31);
        x.change(11, 4);
        x.speak(0);
        edges.due("count(4)", x.count(4), 1);
    }

    private void rowsAndTexts() {
        edges.of(0, "ROWS 0 .. 5 are rows of 0 to 40 ints, TEXTS 0 .. 3 rows of 0 to 60 bytes, or missing (at first).");
        HillSeer x = new HillSeer();
        edges.due("count(8) at first", x.count(8), 0);
        edges.due("count(9) at first", x.count(9), 0);
        for (int r = -1; r <= 6; r++) {
            boolean is = r >= 0 && r <= 5;
            edges.due("at(" + r + ", 0) at first", x.at(r, 0), is ? Edges.FINDING : Edges.BAD);
            edges.due("row(" + r + ", 41)", x.row(r, 41), Edges.BAD);
            edges.due("row(" + r + ", 40)", x.row(r, 40), is ? 40 : Edges.BAD);
            edges.due("row(" + r + ", 0)", x.row(r, 0), is ? 0 : Edges.BAD);
        }
        for (int t = -1; t <= 4; t++) {
            boolean is = t >= 0 && t <= 3;
            edges.due("put(" + t + ", 0, 0) at first", x.put(t, 0, 0), is ? Edges.FINDING : Edges.BAD);
            edges.due("text(" + t + ", 61)", x.text(t, 61), Edges.BAD);
            edges.due("text(" + t + ", 60)", x.text(t, 60), is ? 60 : Edges.BAD);
            edges.due("text(" + t + ", 0)", x.text(t, 0), is ? 0 : Edges.BAD);
        }
        edges.due("count(8)", x.count(8), 6);
        edges.due("count(9)", x.count(9), 4);
    }

    private void state(String when, HillSeer x, int... counts) {
        for (int what = 1; what <= 5; what++) {
            edges.due(when + " count(" + what + ")", x.count(what), counts[what - 1]);
        }
    }

    private void atFirst() {
        edges.of(0, "DAY 0 is at first, no GOLD, no TENT is BLESSED, or CURSED.");
        state("new", new HillSeer(), 0, 0, 0, 0, 0);
        HillSeer x = Check.camped(Check.ALL_KINDS);
        state("camped", x, 0, 0, 0, 0, 0);
        for (int i = 0; i < 12; i++) {
            edges.tells("tent(" + i + ", 1)", x, x.tent(i, 1), 0);
        }
    }

    private void speaks() {
        edges.of(0, "The seer SPEAKS from a HILL: TENTS SEEN that are neither yet become BLESSED by a BLESSING, CURSED"
                + " by a CURSE (by SILENCE nothing);");
        HillSeer x = Check.camped("t039444444444h002h013h111w001");
        x.speak(2);
        state("SILENCE", x, 0, 1, 1, 0, 0);
        x.speak(3);
        state("SILENCE of nothing SEEN", x, 0, 2, 2, 0, 0);
        x.speak(0);
        state("a CURSE", x, 0, 3, 5, 0, 3);
        x.speak(1);
        state("a BLESSING", x, 0, 4, 5, 12, 3);
        HillSeer more = Check.camped("t999000444444h002h021h032h051");
        more.speak(0);
        more.speak(1);
        state("two BLESSINGS", more, 0, 2, 0, 7, 0);
        more.speak(2);
        more.speak(3);
        state("two CURSES", more, 0, 4, 6, 7, 56);
        edges.of(0, "GOLD is more by the FEES of the king: 3 for a CURSE, 1 for SILENCE, 0 for a BLESSING.");
        HillSeer y = Check.camped("t345444444444h001h011h021");
        for (int times = 1; times <= 13; times++) {
            y.speak(0);
            edges.due("GOLD behind a CURSE", y.count(3), 4 * times - 1);
            y.speak(1);
            edges.due("GOLD behind SILENCE", y.count(3), 4 * times);
            y.speak(2);
            edges.due("GOLD behind a BLESSING", y.count(3), 4 * times);
        }
        edges.due("the 40th DEED", y.speak(0), 2);
        edges.due("GOLD of 40 DEEDS", y.count(3), 55);
    }

    private void daysAndFates() {
        edges.of(0, "A DAY: the DAY is 1 more.");
        HillSeer x = Check.camped("t059444444444h002h012");
        for (int day = 1; day <= 38; day++) {
            edges.due("day()", x.day(), day);
            state("DAY " + day, x, day, day, 0, 0, 0);
        }
        edges.of(0, "TENTS SEEN that are neither yet");
        x.speak(1);
        state("a BLESSING", x, 38, 39, 0, 6, 0);
        x.speak(0);
        state("a CURSE over a BLESSED one", x, 38, 40, 3, 6, 1);
        x.undo(38);
        x.speak(0);
        x.speak(1);
        state("a BLESSING over a CURSED one", x, 38, 40, 3, 4, 3);
    }

    private void changes() {
        edges.of(0, "Two TENTS change places (what is GIVEN; who is BLESSED or CURSED goes with it).");
        HillSeer x = Check.camped("t944444444440h001h111");
        x.speak(0);
        x.speak(1);
        state("BLESSED and CURSED", x, 0, 2, 3, 1, 2048);
        x.change(0, 11);
        state("with one another", x, 0, 3, 3, 2048, 1);
        edges.tells("tent(0, 0)", x, x.tent(0, 0), -4);
        edges.tells("tent(11, 0)", x, x.tent(11, 0), 5);
        x.change(11, 5);
        state("BLESSED with neither", x, 0, 4, 3, 32, 1);
        edges.tells("tent(11, 0) then", x, x.tent(11, 0), 0);
        edges.tells("tent(5, 0) then", x, x.tent(5, 0), 5);
        x.change(6, 0);
        state("CURSED with neither", x, 0, 5, 3, 32, 64);
        x.change(1, 2);
        state("neither with neither", x, 0, 6, 3, 32, 64);
        x.change(6, 5);
        state("with one another again", x, 0, 7, 3, 64, 32);
    }

    private void deeds() {
        edges.of(0, "What is done: SPEAKING, a DAY, a CHANGE. These are DEEDS 0, 1, .. (40 at most).");
        HillSeer x = Check.camped(Check.THREE_HILLS);
        int[] refusals = {x.speak(3), x.change(4, 4), x.undo(1), x.keep(3), x.on(0)};
        edges.due("DEEDS behind " + refusals.length + " refusals", x.count(2), 0);
        for (int n = 0; n < 40; n++) {
            int answer = n % 3 == 0 ? x.speak(0) : n % 3 == 1 ? x.day() : x.change(0, 11);
            edges.due("DEED " + n, answer >= 0 ? x.count(2) : answer, n + 1);
        }
        edges.due("speak(0) as the 41st", x.speak(0), Edges.FULL);
        edges.due("day() as the 41st", x.day(), Edges.FULL);
        edges.due("change(0, 1) as the 41st", x.change(0, 1), Edges.FULL);
        edges.due("lots(1, 1) as the 41st", x.lots(1, 1), Edges.FULL);
        x.hidden();
        x.king(1);
        x.mid(1);
        edges.due("DEEDS", x.count(2), 40);
        edges.due("undo(39): the last of them", x.undo(39), 1);
        edges.due("undo(0): the first of them", x.undo(0), 39);
    }

    private void lots() {
        edges.of(0, "LOTS: a number comes from the one ahead by 48271 times it modulo 2147483647, the first from a seed"
                + " (1 .. 2147483646).");
        for (int seed : new int[] {1, 2, 44488, 44489, 1073741824, 2147483645, 2147483646}) {
            HillSeer by = Check.camped(Check.ALL_KINDS);
            HillSeer own = Check.camped(Check.ALL_KINDS);
            java.math.BigInteger number = java.math.BigInteger.valueOf(seed);
            for (int i = 0; i < 20; i++) {
                number = number.multiply(java.math.BigInteger.valueOf(48271))
                        .mod(java.math.BigInteger.valueOf(2147483647));
                EdgesOfChances.byLot(own, number.intValueExact(), 6);
            }
            edges.due("lots(20, " + seed + ")", by.lots(20, seed), own.count(3));
            edges.due("digest() behind lots(20, " + seed + ")", by.digest(), own.digest());
        }
        for (int seed : new int[] {0, -1, Edges.LEAST, Edges.MOST}) {
            edges.bad(Edges.camp(Check.ALL_KINDS), "lots(1, " + seed + ")", x -> x.lots(1, seed));
        }
    }

    private void parts() {
        edges.of(0, "what is seen (aside).");
        HillSeer x = Check.camped(Check.ALL_KINDS);
        x.lots(7, 5);
        long before = x.digest();
        edges.due("only, hidden, fewest", Math.min(x.only(0, 1), Math.min(x.hidden(), x.fewest())) >= 0 ? 1 : 0, 1);
        for (int h = 0; h < 6; h++) {
            for (int word = 0; word <= 2; word++) {
                x.waits(h, word);
            }
        }
        edges.due("digest() behind them", x.digest(), before);
        edges.of(0, "orders of all HILLS (each once, this DAY).");
        StringBuilder text = new StringBuilder("t000000000000");
        long many = 1;
        for (int hills = 1; hills <= 6; hills++) {
            text.append(hills < 6 ? "f0" : "f").append(2 * hills - 2).append('2');
            many *= hills;
            HillSeer y = Check.camped(text.toString());
            y.orders(2 * hills);
            edges.parts("orders(" + 2 * hills + ") of " + hills, y, many, 1);
            y.day();
            y.orders(2 * hills);
            edges.parts("orders(" + 2 * hills + ") on an odd DAY", y, 0, 1);
            y.orders(hills);
            edges.parts("orders(" + hills + ") on an odd DAY", y, many, 1);
        }
    }
}
