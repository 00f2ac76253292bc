import java.util.ArrayList;
import java.util.Arrays;
import java.util.List;

/**
 * What HillSeer answers, worked out a second time without care for room or speed: states are copied whole,
 * orders and lies are gone through one by one. Only answers of CAMPS; ROWS and TEXTS are left to RowsTest.
 */
final class Model {
    static final int NONE = -9;

    record Hill(int kind, int first, int broad) {
        boolean sees(int tent, int given, int day) {
            int away = tent - first;
            return switch (kind) {
                case 0 -> away >= 0 && away < broad;
                case 1 -> away >= 0 && away < broad && away % 2 == 0;
                case 2, 5 -> away >= 0 && away < broad && given >= 0;
                case 3 -> away >= 0 && away < (day % 2 == 1 ? broad / 2 : broad);
                default -> away >= 0 && away < 2 * broad && away % 2 == 0;
            };
        }
    }

    /** What is GIVEN, and the fate, of each TENT. */
    record State(int[] givens, int[] fates, int day, int gold) {
        State {
            givens = givens.clone();
            fates = fates.clone();
        }

        int sum(Hill hill) {
            int sum = 0;
            for (int i = 0; i < 12; i++) {
                if (hill.sees(i, givens[i], day)) {
                    sum += hill.kind() == 5 ? givens[i] / 2 : givens[i];
                }
            }
            return sum;
        }

        int word(Hill hill) {
            return sum(hill) > 0 ? 1 : sum(hill) < 0 ? 2 : 0;
        }

        State said(Hill hill, int word) {
            State next = new State(givens, fates, day, gold + (word == 2 ? 3 : word == 0 ? 1 : 0));
            for (int i = 0; i < 12; i++) {
                if (word != 0 && fates[i] == 0 && hill.sees(i, givens[i], day)) {
                    next.fates[i] = word;
                }
            }
            return next;
        }

        State said(Hill hill) {
            return said(hill, word(hill));
        }

        State later(int days) {
            return new State(givens, fates, day + days, gold);
        }

        State on(int day) {
            return new State(givens, fates, day, gold);
        }

        State changed(int i, int j) {
            State next = new State(givens, fates, day, gold);
            next.givens[i] = givens[j];
            next.givens[j] = givens[i];
            next.fates[i] = fates[j];
            next.fates[j] = fates[i];
            return next;
        }

        State given(int i, int value) {
            State next = new State(givens, fates, day, gold);
            next.givens[i] = value;
            return next;
        }

        int fated(int fate) {
            int set = 0;
            for (int i = 0; i < 12; i++) {
                set |= fates[i] == fate ? 1 << i : 0;
            }
            return set;
        }

        int cursed() {
            return Integer.bitCount(fated(2));
        }
    }

    final List<Hill> hills = new ArrayList<>();
    List<State> states = new ArrayList<>();
    final List<List<State>> kept = new ArrayList<>(Arrays.asList(null, null, null));
    int asked;
    long upper = 0;
    long lower = 1;

    Model(int[] givens, List<Hill> hills) {
        this.hills.addAll(hills);
        states.add(new State(givens, new int[12], 0, 0));
    }

    State now() {
        return states.get(states.size() - 1);
    }

    private int tell(int value) {
        asked = value;
        return 1;
    }

    int seen(int h) {
        int set = 0;
        for (int i = 0; i < 12; i++) {
            set |= hills.get(h).sees(i, now().givens()[i], now().day()) ? 1 << i : 0;
        }
        return set;
    }

    int hill(int h, int what) {
        Hill hill = hills.get(h);
        return tell(switch (what) {
            case 0 -> hill.kind();
            case 1 -> hill.first();
            case 2 -> hill.broad();
            case 3 -> seen(h);
            case 4 -> now().sum(hill);
            default -> now().word(hill);
        });
    }

    int tent(int i, int what) {
        if (what < 2) {
            return tell(what == 0 ? now().givens()[i] : now().fates()[i]);
        }
        int set = 0;
        for (int h = 0; h < hills.size(); h++) {
            set |= (seen(h) & 1 << i) != 0 ? 1 << h : 0;
        }
        return tell(set);
    }

    int mark(int h, int kind) {
        Hill hill = hills.get(h);
        int wide = hill.kind() == 4 ? 2 * hill.broad() : hill.broad();
        int within = Math.min(12, hill.first() + wide) - hill.first();
        if (kind == 1 && (hill.kind() == 1 || hill.kind() == 4)) {
            return within - Integer.bitCount(seen(h));
        }
        if (kind == 2 && (hill.kind() == 2 || hill.kind() == 5)) {
            return within - Integer.bitCount(seen(h));
        }
        if (kind == 3 && hill.kind() == 3) {
            return Math.min(hill.broad() / 2, 12 - hill.first());
        }
        if (kind == 4 && hill.kind() == 4) {
            return Math.max(0, hill.first() + wide - 12);
        }
        if (kind == 5 && hill.kind() == 5) {
            return now().sum(new Hill(2, hill.first(), hill.broad())) - now().sum(hill);
        }
        return -3;
    }

    private boolean isFull(int more) {
        return states.size() - 1 + more > 40;
    }

    int speak(int h) {
        if (isFull(1)) {
            return -2;
        }
        int word = now().word(hills.get(h));
        states.add(now().said(hills.get(h)));
        return word;
    }

    int day() {
        if (isFull(1)) {
            return -2;
        }
        states.add(now().later(1));
        return now().day();
    }

    int change(int i, int j) {
        if (i == j) {
            return -1;
        }
        if (isFull(1)) {
            return -2;
        }
        states.add(now().changed(i, j));
        int set = 0;
        for (int h = 0; h < hills.size(); h++) {
            set |= now().word(hills.get(h)) == 1 ? 1 << h : 0;
        }
        return set;
    }

    int undo(int n) {
        int done = states.size() - 1;
        if (n < 0 || n > done) {
            return -1;
        }
        states = new ArrayList<>(states.subList(0, n + 1));
        return done - n;
    }

    int keep(int k) {
        kept.set(k, new ArrayList<>(states));
        return states.size() - 1;
    }

    int on(int k) {
        if (kept.get(k) == null) {
            return -3;
        }
        states = new ArrayList<>(kept.get(k));
        return states.size() - 1;
    }

    int only(int h, int other) {
        if (h == other) {
            return -1;
        }
        int set = seen(h) - (seen(h) & seen(other));
        tell(Integer.bitCount(set));
        return set;
    }

    private int seenFrom(int set) {
        int seen = 0;
        for (int h = 0; h < hills.size(); h++) {
            seen |= (set & 1 << h) != 0 ? seen(h) : 0;
        }
        return seen;
    }

    int hidden() {
        return 4095 - seenFrom(63);
    }

    int fewest() {
        for (int many = 0; ; many++) {
            for (int set = 0; set < 1 << hills.size(); set++) {
                if (Integer.bitCount(set) == many && seenFrom(set) == seenFrom(63)) {
                    tell(set);
                    return many;
                }
            }
        }
    }

    int waits(int h, int word) {
        for (int days = 0; days < 12; days++) {
            State then = now().later(days);
            for (int i = 0; i < 12; i++) {
                then = then.given((i + days) % 12, now().givens()[i]);
            }
            if (then.word(hills.get(h)) == word) {
                return days;
            }
        }
        return NONE;
    }

    /** All orders of HILLS, by numbers, each with the state behind it. */
    private void orders(List<Integer> order, State state, List<List<Integer>> all, List<State> ends) {
        if (order.size() == hills.size()) {
            all.add(new ArrayList<>(order));
            ends.add(state);
        }
        for (int h = 0; h < hills.size(); h++) {
            if (!order.contains(h)) {
                order.add(h);
                orders(order, state.said(hills.get(h)), all, ends);
                order.remove(order.size() - 1);
            }
        }
    }

    /** The first best order, and how many are CURSED behind it at last. */
    List<Integer> best(boolean many) {
        List<List<Integer>> all = new ArrayList<>();
        List<State> ends = new ArrayList<>();
        orders(new ArrayList<>(), now(), all, ends);
        int at = 0;
        for (int o = 1; o < all.size(); o++) {
            int better = ends.get(o).cursed() - ends.get(at).cursed();
            if (many ? better > 0 : better < 0) {
                at = o;
            }
        }
        List<Integer> answer = new ArrayList<>(all.get(at));
        answer.add(ends.get(at).cursed());
        return answer;
    }

    int orders(int n) {
        List<State> ends = new ArrayList<>();
        orders(new ArrayList<>(), now(), new ArrayList<>(), ends);
        ends.removeIf(end -> end.cursed() != n);
        int common = ends.isEmpty() ? 0 : 4095;
        for (State end : ends) {
            common &= end.fated(2);
        }
        parts(ends.size(), 1);
        return tell(common);
    }

    private void parts(long a, long b) {
        long divisor = b;
        while (a % divisor != 0 || b % divisor != 0) {
            divisor--;
        }
        upper = a / divisor;
        lower = b / divisor;
    }

    int rides(int[] row) {
        State state = now();
        for (int h : row) {
            state = state.said(hills.get(h));
        }
        tell(state.gold());
        return state.cursed();
    }

    private boolean isBlessed(State state) {
        return hills.stream().allMatch(hill -> state.word(hill) == 1);
    }

    int blessed() {
        if (isBlessed(now())) {
            tell(NONE);
            return 0;
        }
        for (int changes = 1; changes <= 2; changes++) {
            for (int first = 0; first < 144; first++) {
                if (first / 12 < first % 12 && blessesBy(now().changed(first / 12, first % 12), changes - 1)) {
                    tell(first);
                    return changes;
                }
            }
        }
        return NONE;
    }

    private boolean blessesBy(State state, int changes) {
        if (changes == 0) {
            return isBlessed(state);
        }
        for (int pair = 0; pair < 144; pair++) {
            if (pair / 12 < pair % 12 && isBlessed(state.changed(pair / 12, pair % 12))) {
                return true;
            }
        }
        return false;
    }

    int fees(int n, int silence, int blessing, int curse) {
        int[] fees = {silence, blessing, curse};
        int sum = 0;
        tell(NONE);
        for (int days = n - 1; days >= 0; days--) {
            State then = now().later(days);
            int[] brought = hills.stream().mapToInt(hill -> fees[then.word(hill)]).toArray();
            int most = Arrays.stream(brought).max().getAsInt();
            sum += most;
            for (int h = hills.size() - 1; h >= 0 && days == 0; h--) {
                asked = brought[h] == most ? h : asked;
            }
        }
        return sum;
    }

    private static boolean fits(int[] notes, Hill hill, State state) {
        boolean fits = true;
        for (int i = 0; i < notes.length; i += 2) {
            fits &= state.on(notes[i]).word(hill) == notes[i + 1];
        }
        return fits;
    }

    int from(int[] notes) {
        int set = 0;
        for (int h = 0; h < hills.size(); h++) {
            set |= fits(notes, hills.get(h), now()) ? 1 << h : 0;
        }
        return set;
    }

    int kinds(int h, int[] notes) {
        int set = 0;
        for (int kind = 0; kind < 6; kind++) {
            set |= fits(notes, new Hill(kind, hills.get(h).first(), hills.get(h).broad()), now()) ? 1 << kind : 0;
        }
        return set;
    }

    int given(int i, int h, int[] notes) {
        int set = 0;
        for (int value = -4; value <= 5; value++) {
            set |= fits(notes, hills.get(h), now().given(i, value)) ? 1 << value + 4 : 0;
        }
        return set;
    }

    int king(int n) {
        return people(now(), n);
    }

    private int people(State state, int n) {
        if (n == 0) {
            return state.cursed();
        }
        int fewest = 99;
        for (int i = -1; i < 11; i++) {
            State then = i < 0 ? state : state.changed(i, i + 1);
            fewest = Math.min(fewest, hills.stream().mapToInt(h -> people(then.said(h), n - 1)).max().getAsInt());
        }
        return fewest;
    }

    int odds(int h, int p) {
        int word = now().word(hills.get(h));
        parts(word == 2 ? 12 - p : word == 1 ? p : 0, 12);
        return 1;
    }

    int mid(int p) {
        long whole = 0;
        long all = 1;
        for (int h = 0; h < hills.size(); h++) {
            all *= 12;
        }
        for (int lies = 0; lies < 1 << hills.size(); lies++) {
            State state = now();
            long weight = 1;
            for (int h = 0; h < hills.size(); h++) {
                boolean isLie = (lies & 1 << h) != 0;
                int word = state.word(hills.get(h));
                state = state.said(hills.get(h), isLie && word != 0 ? 3 - word : word);
                weight *= isLie ? p : 12 - p;
            }
            whole += weight * state.cursed();
        }
        parts(whole, all);
        return 1;
    }

    int lots(int n, int seed) {
        if (isFull(n)) {
            return -2;
        }
        long it = seed;
        for (int i = 0; i < n; i++) {
            it = it * 48271 % 2147483647;
            switch ((int) (it / 8 % 4)) {
                case 0 -> day();
                case 1 -> change((int) (it % 12), (int) ((it % 12 + 1) % 12));
                default -> speak((int) (it % hills.size()));
            }
        }
        return now().gold();
    }

    int count(int what) {
        return switch (what) {
            case 0 -> hills.size();
            case 1 -> now().day();
            case 2 -> states.size() - 1;
            case 3 -> now().gold();
            case 4 -> now().fated(1);
            case 5 -> now().fated(2);
            case 6 -> (int) hills.stream().filter(h -> h.kind() == 1 || h.kind() == 4).count();
            case 7 -> (int) hills.stream().filter(h -> h.kind() == 2 || h.kind() == 5).count();
            default -> (int) kept.stream().filter(k -> k != null).count();
        };
    }
}
