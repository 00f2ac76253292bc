import java.util.ArrayList;
import java.util.Arrays;
import java.util.List;
import java.util.regex.Matcher;
import java.util.regex.Pattern;

/**
 * HillSeer a second time, every call of its face with all its refusals: what a CAMP answers is left to Model, the
 * language of CAMPS to one pattern. No care for room or speed.
 */
final class Twin {
    private static final int BAD = -1, FULL = -2, FINDING = -3, STATE = -4, NONE = -9;
    private static final int NOTHING = 1, BEYOND = 2, UNLIKE = 3, NOUGHT = 4, SIZE = 5;
    private static final String LETTERS = "hbwfir";
    private static final String HILL = "[hbwfir](?:0[0-9]|1[01])[1-9]";
    private static final Pattern CAMP = Pattern.compile(" *t[0-9]{12}(?: *" + HILL + "){1,6} *");

    private final int[][] rows = new int[6][];
    private final byte[][] texts = new byte[4][];
    private Model model = null;
    private int told = 0;
    private long over = 0;
    private long under = 1;
    private int latest = 0;
    private final int[] found = new int[6];

    private int find(int finding) {
        latest = finding;
        found[finding]++;
        return FINDING;
    }

    private static boolean within(int n, int least, int most) {
        return n >= least && n <= most;
    }

    private int hills() {
        return model == null ? 0 : model.hills.size();
    }

    private boolean isHill(int h) {
        return within(h, 0, hills() - 1);
    }

    private int tell(int value) {
        told = value;
        return 1;
    }

    /** What the model answered, having told by asked(), too. */
    private int telling(int answer) {
        told = model.asked;
        return answer;
    }

    private int parting(int answer) {
        over = model.upper;
        under = model.lower;
        return answer;
    }

    int row(int r, int n) {
        if (!within(r, 0, 5) || n > 40) {
            return BAD;
        }
        if (n < 0) {
            return find(SIZE);
        }
        rows[r] = new int[n];
        return n;
    }

    int lay(int r, int i, int v) {
        int answer = at(r, i);
        if (answer == 1) {
            rows[r][i] = v;
        }
        return answer;
    }

    int at(int r, int i) {
        if (!within(r, 0, 5)) {
            return BAD;
        }
        if (rows[r] == null) {
            return find(NOTHING);
        }
        return within(i, 0, rows[r].length - 1) ? tell(rows[r][i]) : find(BEYOND);
    }

    int tear(int r) {
        if (!within(r, 0, 5)) {
            return BAD;
        }
        if (rows[r] == null) {
            return find(NOTHING);
        }
        rows[r] = null;
        return 1;
    }

    int copy(int r, int i, int to, int j, int n) {
        if (!within(r, 0, 5) || !within(to, 0, 5)) {
            return BAD;
        }
        if (n < 0) {
            return find(SIZE);
        }
        if (rows[r] == null || rows[to] == null) {
            return find(NOTHING);
        }
        if (i < 0 || j < 0 || (long) i + n > rows[r].length || (long) j + n > rows[to].length) {
            return find(BEYOND);
        }
        int[] taken = Arrays.copyOfRange(rows[r], i, i + n);
        for (int k = 0; k < n; k++) {
            rows[to][j + k] = taken[k];
        }
        return 1;
    }

    int mean(int r) {
        if (!within(r, 0, 5)) {
            return BAD;
        }
        if (rows[r] == null) {
            return find(NOTHING);
        }
        if (rows[r].length == 0) {
            return find(NOUGHT);
        }
        return tell((int) (Arrays.stream(rows[r]).asLongStream().sum() / rows[r].length));
    }

    int text(int t, int n) {
        if (!within(t, 0, 3) || n > 60) {
            return BAD;
        }
        if (n < 0) {
            return find(SIZE);
        }
        texts[t] = new byte[n];
        Arrays.fill(texts[t], (byte) ' ');
        return n;
    }

    int put(int t, int i, int v) {
        if (!within(t, 0, 3)) {
            return BAD;
        }
        if (texts[t] == null) {
            return find(NOTHING);
        }
        if (!within(i, 0, texts[t].length - 1)) {
            return find(BEYOND);
        }
        int was = texts[t][i];
        texts[t][i] = (byte) v;
        return was + 1000;
    }

    private String written(int t) {
        StringBuilder text = new StringBuilder();
        for (byte b : texts[t]) {
            text.append((char) (b & 255));
        }
        return text.toString();
    }

    /** A TEXT can't go on at the first place behind which no CAMP begins so. */
    int fault(int t) {
        if (!within(t, 0, 3)) {
            return BAD;
        }
        if (texts[t] == null) {
            return find(NOTHING);
        }
        String text = written(t);
        for (int size = 1; size <= text.length(); size++) {
            Matcher begun = CAMP.matcher(text.substring(0, size));
            if (!begun.matches() && !begun.hitEnd()) {
                return size - 1;
            }
        }
        return CAMP.matcher(text).matches() ? NONE : text.length();
    }

    int camp(int t) {
        int fault = fault(t);
        if (fault == BAD || fault == FINDING) {
            return fault;
        }
        if (fault != NONE) {
            return STATE;
        }
        String text = written(t).replace(" ", "");
        int[] givens = new int[12];
        for (int i = 0; i < 12; i++) {
            givens[i] = text.charAt(1 + i) - '0' - 4;
        }
        List<Model.Hill> hills = new ArrayList<>();
        for (int at = 13; at < text.length(); at += 4) {
            hills.add(new Model.Hill(LETTERS.indexOf(text.charAt(at)), Integer.parseInt(text.substring(at + 1, at + 3)),
                    text.charAt(at + 3) - '0'));
        }
        model = new Model(givens, hills);
        return hills.size();
    }

    int hill(int h, int what) {
        return isHill(h) && within(what, 0, 5) ? telling(model.hill(h, what)) : BAD;
    }

    int tent(int i, int what) {
        if (!within(i, 0, 11) || !within(what, 0, 2)) {
            return BAD;
        }
        return hills() == 0 ? STATE : telling(model.tent(i, what));
    }

    int mark(int h, int kind) {
        if (!isHill(h) || !within(kind, 1, 5)) {
            return BAD;
        }
        int mark = model.mark(h, kind);
        return mark == FINDING ? find(UNLIKE) : mark;
    }

    int speak(int h) {
        return isHill(h) ? model.speak(h) : BAD;
    }

    int day() {
        return hills() == 0 ? STATE : model.day();
    }

    int change(int i, int j) {
        if (!within(i, 0, 11) || !within(j, 0, 11) || i == j) {
            return BAD;
        }
        return hills() == 0 ? STATE : model.change(i, j);
    }

    int undo(int n) {
        return hills() == 0 ? n == 0 ? 0 : BAD : model.undo(n);
    }

    int keep(int k) {
        if (!within(k, 0, 2)) {
            return BAD;
        }
        return hills() == 0 ? STATE : model.keep(k);
    }

    int on(int k) {
        if (!within(k, 0, 2)) {
            return BAD;
        }
        return hills() == 0 || model.kept.get(k) == null ? find(NOTHING) : model.on(k);
    }

    int only(int h, int other) {
        return isHill(h) && isHill(other) && h != other ? telling(model.only(h, other)) : BAD;
    }

    int hidden() {
        return hills() == 0 ? STATE : model.hidden();
    }

    int fewest() {
        return hills() == 0 ? STATE : telling(model.fewest());
    }

    int waits(int h, int word) {
        return isHill(h) && within(word, 0, 2) ? model.waits(h, word) : BAD;
    }

    int curse(int r) {
        return order(r, true);
    }

    int spare(int r) {
        return order(r, false);
    }

    private int order(int r, boolean many) {
        if (!within(r, 0, 5)) {
            return BAD;
        }
        if (hills() == 0) {
            return STATE;
        }
        List<Integer> best = model.best(many);
        rows[r] = best.subList(0, hills()).stream().mapToInt(h -> h).toArray();
        return best.get(hills());
    }

    int orders(int n) {
        if (!within(n, 0, 12)) {
            return BAD;
        }
        return hills() == 0 ? STATE : parting(telling(model.orders(n)));
    }

    int rides(int r) {
        if (!within(r, 0, 5)) {
            return BAD;
        }
        if (hills() == 0) {
            return STATE;
        }
        if (rows[r] == null) {
            return find(NOTHING);
        }
        if (rows[r].length > 12) {
            return find(SIZE);
        }
        return Arrays.stream(rows[r]).allMatch(this::isHill) ? telling(model.rides(rows[r])) : find(UNLIKE);
    }

    int blessed() {
        if (hills() == 0) {
            return STATE;
        }
        int changes = model.blessed();
        return changes == NONE ? NONE : telling(changes);
    }

    int fees(int n, int silence, int blessing, int curse) {
        if (!within(n, 0, 9) || !within(silence, 0, 9) || !within(blessing, 0, 9) || !within(curse, 0, 9)) {
            return BAD;
        }
        return hills() == 0 ? STATE : telling(model.fees(n, silence, blessing, curse));
    }

    /** The FINDING that notes are refused by, or 0. */
    private int wrongNotes(int r) {
        if (rows[r] == null) {
            return NOTHING;
        }
        if (rows[r].length % 2 != 0 || rows[r].length / 2 > 8) {
            return SIZE;
        }
        for (int i = 0; i < rows[r].length; i++) {
            if (!within(rows[r][i], 0, i % 2 == 0 ? 99 : 2)) {
                return UNLIKE;
            }
        }
        return 0;
    }

    int from(int r) {
        if (!within(r, 0, 5)) {
            return BAD;
        }
        if (wrongNotes(r) != 0) {
            return find(wrongNotes(r));
        }
        return hills() == 0 ? 0 : model.from(rows[r]);
    }

    int kinds(int h, int r) {
        if (!isHill(h) || !within(r, 0, 5)) {
            return BAD;
        }
        return wrongNotes(r) != 0 ? find(wrongNotes(r)) : model.kinds(h, rows[r]);
    }

    int given(int i, int h, int r) {
        if (!within(i, 0, 11) || !isHill(h) || !within(r, 0, 5)) {
            return BAD;
        }
        return wrongNotes(r) != 0 ? find(wrongNotes(r)) : model.given(i, h, rows[r]);
    }

    int king(int n) {
        if (!within(n, 0, 2)) {
            return BAD;
        }
        return hills() == 0 ? STATE : model.king(n);
    }

    int odds(int h, int p) {
        return isHill(h) && within(p, 0, 12) ? parting(model.odds(h, p)) : BAD;
    }

    int mid(int p) {
        if (!within(p, 0, 12)) {
            return BAD;
        }
        return hills() == 0 ? STATE : parting(model.mid(p));
    }

    int lots(int n, int seed) {
        if (!within(n, 1, 20) || !within(seed, 1, 2147483646)) {
            return BAD;
        }
        return hills() == 0 ? STATE : model.lots(n, seed);
    }

    int asked() {
        return told;
    }

    long upper() {
        return over;
    }

    long lower() {
        return under;
    }

    int count(int what) {
        if (!within(what, 0, 10)) {
            return BAD;
        }
        if (what == 8 || what == 9) {
            return (int) Arrays.stream(what == 8 ? rows : texts).filter(one -> one != null).count();
        }
        return hills() == 0 ? 0 : model.count(what);
    }

    int finding() {
        return latest;
    }

    int findings(int f) {
        return within(f, 1, 5) ? found[f] : BAD;
    }

    long digest() {
        List<Integer> all = new ArrayList<>();
        for (int what = 0; what <= 10; what++) {
            all.add(count(what));
        }
        for (int i = 0; i < 12 && hills() > 0; i++) {
            all.add(model.now().givens()[i]);
        }
        for (int h = 0; h < hills(); h++) {
            for (int what = 0; what <= 5; what++) {
                model.hill(h, what);
                all.add(model.asked);
            }
        }
        for (int k = 0; k <= 2; k++) {
            all.add(hills() == 0 || model.kept.get(k) == null ? -1 : model.kept.get(k).size() - 1);
        }
        for (int[] row : rows) {
            all.add(row == null ? -1 : row.length);
            for (int i = 0; row != null && i < row.length; i++) {
                all.add(row[i]);
            }
        }
        for (byte[] text : texts) {
            all.add(text == null ? -1 : text.length);
            for (int i = 0; text != null && i < text.length; i++) {
                all.add((int) text[i]);
            }
        }
        long h = 17;
        for (int v : all) {
            h = 31 * h + v;
        }
        return h;
    }
}
