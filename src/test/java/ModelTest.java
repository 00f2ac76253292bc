import java.util.ArrayList;
import java.util.List;
import java.util.Random;

/**
 * Calls by lot on CAMPS by lot, each answer against the model's. The lots are the same in every run. Each object is
 * used for less than 512 calls: behind these the document leaves the answers free.
 */
public final class ModelTest {
    private static final int CAMPS = 2000;
    private static final int CALLS = 25;
    private static final int[] COUNTS = {0, 1, 2, 3, 4, 5, 6, 7, 10};
    private static final Check check = new Check();

    private final Random random;
    private final HillSeer x = new HillSeer();
    private final Model model;

    private ModelTest(int seed) {
        random = new Random(seed);
        StringBuilder text = new StringBuilder(" t");
        int[] givens = new int[12];
        int lean = random.nextInt(3);
        for (int i = 0; i < 12; i++) {
            int figure = lean == 0 ? random.nextInt(10) : lean == 1 ? random.nextInt(7) : 3 + random.nextInt(4);
            text.append(figure);
            givens[i] = figure - 4;
        }
        List<Model.Hill> hills = new ArrayList<>();
        int many = 1 + random.nextInt(6);
        for (int h = 0; h < many; h++) {
            Model.Hill hill = new Model.Hill(random.nextInt(6), random.nextInt(12), 1 + random.nextInt(9));
            hills.add(hill);
            text.append(random.nextBoolean() ? " " : "").append("hbwfir".charAt(hill.kind()))
                    .append(hill.first() < 10 ? "0" : "").append(hill.first()).append(hill.broad());
        }
        model = new Model(givens, hills);
        Check.write(x, 0, text.toString());
        check.due("camp of \"" + text + "\"", x.camp(0), many);
    }

    public static void main(String[] args) {
        for (int seed = 1; seed <= CAMPS; seed++) {
            ModelTest run = new ModelTest(seed);
            for (int i = 0; i < CALLS; i++) {
                run.call("run " + seed + ", call " + i + ": ");
            }
        }
        check.end();
    }

    private int hill() {
        return random.nextInt(model.hills.size());
    }

    private int tent() {
        return random.nextInt(12);
    }

    private int[] row(int n, int below) {
        return random.ints(n, 0, below).toArray();
    }

    private int[] notes() {
        int[] notes = row(2 * random.nextInt(4), 3);
        for (int i = 0; i < notes.length; i += 2) {
            notes[i] = random.nextInt(100);
            if (random.nextInt(3) > 0) {
                notes[i + 1] = model.now().on(notes[i]).word(model.hills.get(0));
            }
        }
        Check.fill(x, 0, notes);
        sameAsked();
        return notes;
    }

    /** Rows are no part of the model: what lay() told is taken over. */
    private void sameAsked() {
        model.asked = x.asked();
    }

    private void call(String where) {
        if (random.nextInt(4) < 2) {
            deed(where, random.nextInt(7));
        } else if (random.nextInt(8) > 0) {
            look(where, random.nextInt(14));
        } else {
            lookFar(where, random.nextInt(5));
        }
        check.due(where + "asked()", x.asked(), model.asked);
        check.parts(where, x, model.upper, model.lower);
        int what = COUNTS[random.nextInt(COUNTS.length)];
        check.due(where + "count(" + what + ")", x.count(what), model.count(what));
    }

    private void deed(String where, int which) {
        int h = hill();
        int i = tent();
        int j = tent();
        int n = random.nextInt(42) - 1;
        int k = random.nextInt(3);
        int seed = 1 + random.nextInt(2147483646);
        switch (which) {
            case 0 -> check.due(where + "speak", x.speak(h), model.speak(h));
            case 1 -> check.due(where + "day", x.day(), model.day());
            case 2 -> check.due(where + "change", x.change(i, j), model.change(i, j));
            case 3 -> check.due(where + "undo", x.undo(n), model.undo(n));
            case 4 -> check.due(where + "keep", x.keep(k), model.keep(k));
            case 5 -> check.due(where + "on", x.on(k), model.on(k));
            default -> check.due(where + "lots", x.lots(1 + i, seed), model.lots(1 + i, seed));
        }
    }

    private void look(String where, int which) {
        int h = hill();
        int other = hill();
        int i = tent();
        int small = random.nextInt(3);
        int what = random.nextInt(6);
        int n = random.nextInt(10);
        int p = random.nextInt(13);
        switch (which) {
            case 0 -> check.due(where + "hill", x.hill(h, what), model.hill(h, what));
            case 1 -> check.due(where + "tent", x.tent(i, small), model.tent(i, small));
            case 2 -> check.due(where + "mark", x.mark(h, 1 + what % 5), model.mark(h, 1 + what % 5));
            case 3 -> check.due(where + "only", x.only(h, other), model.only(h, other));
            case 4 -> check.due(where + "hidden", x.hidden(), model.hidden());
            case 5 -> check.due(where + "fewest", x.fewest(), model.fewest());
            case 6 -> check.due(where + "waits", x.waits(h, small), model.waits(h, small));
            case 7 -> check.due(where + "fees", x.fees(n, small, what, p % 10), model.fees(n, small, what, p % 10));
            case 8 -> {
                int[] notes = notes();
                check.due(where + "from", x.from(0), model.from(notes));
            }
            case 9 -> {
                int[] notes = notes();
                check.due(where + "kinds", x.kinds(h, 0), model.kinds(h, notes));
            }
            case 10 -> {
                int[] notes = notes();
                check.due(where + "given", x.given(i, h, 0), model.given(i, h, notes));
            }
            case 11 -> check.due(where + "odds", x.odds(h, p), model.odds(h, p));
            case 12 -> check.due(where + "mid", x.mid(p), model.mid(p));
            default -> {
                int[] ride = row(random.nextInt(13), model.hills.size());
                Check.fill(x, 1, ride);
                check.due(where + "rides", x.rides(1), model.rides(ride));
            }
        }
    }

    private void lookFar(String where, int which) {
        int n = random.nextInt(13);
        switch (which) {
            case 0, 1 -> order(where, which == 0);
            case 2 -> check.due(where + "orders", x.orders(n), model.orders(n));
            case 3 -> check.due(where + "blessed", x.blessed(), model.blessed());
            default -> check.due(where + "king", x.king(n % 3), model.king(n % 3));
        }
    }

    private void order(String where, boolean many) {
        List<Integer> best = model.best(many);
        int got = many ? x.curse(2) : x.spare(2);
        for (int i = 0; i < model.hills.size(); i++) {
            x.at(2, i);
            check.due(where + "place of the order", x.asked(), best.get(i));
        }
        check.due(where + "curse, spare", got, best.get(best.size() - 1));
        sameAsked();
    }
}
