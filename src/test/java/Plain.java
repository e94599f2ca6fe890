import java.util.ArrayList;
import java.util.List;

/**
 * The document's words once more, as plainly as they can be written, to compare with. A small
 * score is searched by trying every CHOICE whole; a larger one MOMENT by MOMENT, forward, which
 * is the other way round than the class goes.
 */
final class Plain {
    static final long TRIED_WHOLE = 20000;

    int out = 2;
    int twice = 4;
    int wide = 2;
    int step = 3;
    int change = 5;

    private final List<int[]> pitches = new ArrayList<>();
    private final List<int[]> toldNames = new ArrayList<>();
    private final List<Integer> toldKeys = new ArrayList<>();
    private int sounds = 0;

    private boolean known = false;
    private long bestCost;
    private long bestSigns;
    private long count;
    private int[][] best;

    // ---- names

    static int letter(int name) {
        return Math.floorMod(4 * (name - 15), 7);
    }

    static int sign(int name) {
        return Math.floorDiv(name - 14, 7);
    }

    static boolean sounds(int name, int pitch) {
        return Math.floorMod(7 * (name - 15) - pitch, 12) == 0;
    }

    static int octave(int name, int pitch) {
        return Math.floorDiv(pitch - sign(name) + 12, 12);
    }

    static int place(int name, int pitch) {
        return 7 * octave(name, pitch) + letter(name);
    }

    static int steps(int f) {
        return Math.floorMod(4 * f, 7);
    }

    static int halves(int f) {
        return 7 * f - 12 * Math.floorDiv(4 * f, 7);
    }

    static int sort(int f) {
        int[] from = {-1, 2, -5, 6, -12, 13, -19};
        int[] to = {1, 5, -2, 12, -6, 19, -13};
        for (int s = 0; s < 7; s++) {
            if (f >= from[s] && f <= to[s]) {
                return s;
            }
        }
        throw new IllegalStateException("no sort");
    }

    // ---- the cost of a choice: choice[m] is the KEY of MOMENT m and the NAMES behind it

    private long costAt(int m, int[] state) {
        long cost = 0;
        int key = state[0];
        for (int i = 1; i < state.length; i++) {
            int n = state[i];
            if (n < key + 7) {
                cost += (long) out * (key + 7 - n);
            }
            if (n > key + 13) {
                cost += (long) out * (n - (key + 13));
            }
            if (sign(n) == 2 || sign(n) == -2) {
                cost += twice;
            }
            for (int j = i + 1; j < state.length; j++) {
                int apart = Math.abs(n - state[j]);
                if (apart > 6) {
                    cost += (long) wide * (apart - 6);
                }
            }
        }
        return cost;
    }

    private long costBetween(int m, int[] before, int[] state) {
        int far = Math.abs(state[0] - before[0]);
        long cost = far == 12 ? change : (long) change * far;
        for (int i = 1; i < state.length && i < before.length; i++) {
            int p = pitches.get(m - 1)[i - 1];
            int q = pitches.get(m)[i - 1];
            if (p == q) {
                cost += before[i] != state[i] ? step : 0;
            } else if (Math.abs(p - q) <= 2) {
                int way = q > p ? 1 : -1;
                cost += place(state[i], q) - place(before[i], p) != way ? step : 0;
            }
        }
        return cost;
    }

    private static long signsOf(int[] state) {
        long all = 0;
        for (int i = 1; i < state.length; i++) {
            all += Math.abs(sign(state[i]));
        }
        return all;
    }

    private List<int[]> states(int m) {
        List<int[]> found = new ArrayList<>();
        for (int key = 0; key < 15; key++) {
            if (toldKeys.get(m) == 15 || toldKeys.get(m) == key) {
                int[] state = new int[pitches.get(m).length + 1];
                state[0] = key;
                fill(m, state, 1, found);
            }
        }
        return found;
    }

    private void fill(int m, int[] state, int i, List<int[]> found) {
        if (i == state.length) {
            found.add(state.clone());
            return;
        }
        int told = toldNames.get(m)[i - 1];
        for (int n = 0; n < 35; n++) {
            if (sounds(n, pitches.get(m)[i - 1]) && (told == 35 || told == n)) {
                state[i] = n;
                fill(m, state, i + 1, found);
            }
        }
    }

    // ---- the search

    private void search() {
        if (known) {
            return;
        }
        known = true;
        bestCost = 0;
        bestSigns = 0;
        count = 1;
        best = new int[0][];
        if (sounds == 0) {
            return;
        }
        List<List<int[]>> all = new ArrayList<>();
        long whole = 1;
        for (int m = 0; m < pitches.size(); m++) {
            all.add(states(m));
            whole = Math.min(TRIED_WHOLE + 1, whole * all.get(m).size());
        }
        if (whole <= TRIED_WHOLE) {
            tryWhole(all);
        } else {
            goForward(all);
        }
    }

    private void tryWhole(List<List<int[]>> all) {
        bestCost = Long.MAX_VALUE;
        count = 0;
        tryFrom(all, new int[all.size()][], 0);
        count = Math.min(count, 1000000);
    }

    private void tryFrom(List<List<int[]>> all, int[][] choice, int m) {
        if (m < choice.length) {
            for (int[] state : all.get(m)) {
                choice[m] = state;
                tryFrom(all, choice, m + 1);
            }
            return;
        }
        long cost = 0;
        long signs = 0;
        for (int i = 0; i < choice.length; i++) {
            cost += costAt(i, choice[i]);
            cost += i > 0 ? costBetween(i, choice[i - 1], choice[i]) : 0;
            signs += signsOf(choice[i]);
        }
        count = cost < bestCost ? 1 : cost == bestCost ? count + 1 : count;
        boolean better = cost < bestCost || cost == bestCost
            && (signs < bestSigns || signs == bestSigns && isFirst(choice, best));
        if (better) {
            bestCost = cost;
            bestSigns = signs;
            best = choice.clone();
        }
    }

    private static boolean isFirst(int[][] one, int[][] other) {
        for (int m = 0; m < one.length; m++) {
            for (int i = 0; i < one[m].length; i++) {
                if (one[m][i] != other[m][i]) {
                    return one[m][i] < other[m][i];
                }
            }
        }
        return false;
    }

    private static final class Way {
        long cost = Long.MAX_VALUE;
        long signs = 0;
        long count = 0;
        int[][] path = null;

        void meet(long cost, long signs, long count, int[][] path) {
            if (cost < this.cost) {
                this.count = count;
            } else if (cost == this.cost) {
                this.count = Math.min(1000000, this.count + count);
            }
            boolean better = cost < this.cost || cost == this.cost
                && (signs < this.signs || signs == this.signs && isFirst(path, this.path));
            if (better) {
                this.cost = cost;
                this.signs = signs;
                this.path = path;
            }
        }
    }

    private void goForward(List<List<int[]>> all) {
        Way[] ways = null;
        for (int m = 0; m < all.size(); m++) {
            List<int[]> here = all.get(m);
            Way[] next = new Way[here.size()];
            for (int s = 0; s < next.length; s++) {
                next[s] = wayTo(all, ways, m, here.get(s));
            }
            ways = next;
        }
        Way end = new Way();
        for (Way way : ways) {
            end.meet(way.cost, way.signs, way.count, way.path);
        }
        bestCost = end.cost;
        bestSigns = end.signs;
        count = end.count;
        best = end.path;
    }

    private Way wayTo(List<List<int[]>> all, Way[] before, int m, int[] state) {
        long own = costAt(m, state);
        long signs = signsOf(state);
        Way way = new Way();
        if (m == 0) {
            way.meet(own, signs, 1, new int[0][]);
        } else {
            for (int b = 0; b < before.length; b++) {
                long cost = before[b].cost + own + costBetween(m, all.get(m - 1).get(b), state);
                way.meet(cost, before[b].signs + signs, before[b].count, before[b].path);
            }
        }
        int[][] longer = java.util.Arrays.copyOf(way.path, m + 1);
        longer[m] = state;
        way.path = longer;
        return way;
    }

    // ---- the face

    int pitch(int number, boolean with) {
        int last = pitches.size() - 1;
        if (number < 0 || number > 127) {
            return -2;
        }
        if (with && (last < 0 || pitches.get(last).length == 3)) {
            return -3;
        }
        if (sounds == 18) {
            return -4;
        }
        if (with) {
            pitches.set(last, longer(pitches.get(last), number));
            toldNames.set(last, longer(toldNames.get(last), 35));
        } else {
            pitches.add(new int[] {number});
            toldNames.add(new int[] {35});
            toldKeys.add(15);
        }
        known = false;
        return sounds++;
    }

    private static int[] longer(int[] row, int last) {
        int[] more = java.util.Arrays.copyOf(row, row.length + 1);
        more[row.length] = last;
        return more;
    }

    private boolean has(int sound) {
        return sound >= 0 && sound < sounds;
    }

    private int moment(int sound) {
        int m = 0;
        int past = pitches.get(0).length;
        while (sound >= past) {
            m++;
            past += pitches.get(m).length;
        }
        return m;
    }

    private int at(int sound) {
        int m = moment(sound);
        for (int i = 0; i < m; i++) {
            sound -= pitches.get(i).length;
        }
        return sound;
    }

    private int pitchOf(int sound) {
        return pitches.get(moment(sound))[at(sound)];
    }

    private int nameOf(int sound) {
        search();
        return best[moment(sound)][at(sound) + 1];
    }

    int key(int sound, int key) {
        if (!has(sound)) {
            return -1;
        }
        if (key < 0 || key > 15) {
            return -2;
        }
        known = false;
        return toldKeys.set(moment(sound), key);
    }

    int fix(int sound, int name) {
        if (!has(sound)) {
            return -1;
        }
        if (name < 0 || name > 35 || name < 35 && !sounds(name, pitchOf(sound))) {
            return -2;
        }
        known = false;
        int[] row = toldNames.get(moment(sound));
        int was = row[at(sound)];
        row[at(sound)] = name;
        return was;
    }

    int weights(int out, int twice, int wide, int step, int change) {
        for (int w : new int[] {out, twice, wide, step, change}) {
            if (w < 0 || w > 20) {
                return -2;
            }
        }
        this.out = out;
        this.twice = twice;
        this.wide = wide;
        this.step = step;
        this.change = change;
        known = false;
        return 1;
    }

    int clear() {
        int was = sounds;
        sounds = 0;
        pitches.clear();
        toldNames.clear();
        toldKeys.clear();
        known = false;
        return was;
    }

    int sum() {
        search();
        return (int) bestCost;
    }

    int signs() {
        search();
        return (int) bestSigns;
    }

    int ties() {
        search();
        return (int) count;
    }

    int name(int sound, int what) {
        if (!has(sound)) {
            return -1;
        }
        if (what < 0 || what > 3) {
            return -2;
        }
        int n = nameOf(sound);
        return new int[] {n, letter(n), sign(n) + 2, octave(n, pitchOf(sound))}[what];
    }

    int keyOf(int sound) {
        if (!has(sound)) {
            return -1;
        }
        search();
        return best[moment(sound)][0];
    }

    private List<Integer> turns() {
        search();
        List<Integer> found = new ArrayList<>();
        for (int m = 1; m < best.length; m++) {
            if (Math.abs(best[m][0] - best[m - 1][0]) == 12) {
                found.add(m);
            }
        }
        return found;
    }

    int turned() {
        return turns().size();
    }

    int turn(int i) {
        List<Integer> found = turns();
        return i < 0 || i >= found.size() ? -1 : found.get(i);
    }

    int interval(int from, int to, int what) {
        if (!has(from) || !has(to)) {
            return -1;
        }
        if (what < 0 || what > 1) {
            return -2;
        }
        int f = nameOf(to) - nameOf(from);
        if (Math.abs(f) > 19) {
            return -3;
        }
        if (what == 0) {
            return f + 19;
        }
        int way = place(nameOf(to), pitchOf(to)) - place(nameOf(from), pitchOf(from));
        for (int octaves = -12; octaves <= 12; octaves++) {
            if (steps(f) + 7 * octaves == way) {
                return octaves + 12;
            }
        }
        throw new IllegalStateException("no octaves fit");
    }

    int quality(int interval, int what) {
        if (interval < 0 || interval > 38 || what < 0 || what > 2) {
            return -2;
        }
        int f = interval - 19;
        return new int[] {steps(f), halves(f) + 2, sort(f)}[what];
    }

    int add(int interval, int other) {
        if (interval < 0 || interval > 38 || other < 0 || other > 38) {
            return -2;
        }
        int f = interval - 19 + other - 19;
        return Math.abs(f) > 19 ? -3 : f + 19;
    }

    int transpose(int sound, int interval, int what) {
        if (!has(sound)) {
            return -1;
        }
        if (interval < 0 || interval > 38 || what < 0 || what > 1) {
            return -2;
        }
        int name = nameOf(sound) + interval - 19;
        int pitch = pitchOf(sound) + halves(interval - 19);
        if (name < 0 || name > 34 || pitch < 0 || pitch > 127) {
            return -3;
        }
        return what == 0 ? name : pitch;
    }

    int micro(int sound, int n, int by) {
        if (!has(sound)) {
            return -1;
        }
        if (n < -6 || n > 6 || by < 2 || by > 3) {
            return -2;
        }
        int sixths = 6 * sign(nameOf(sound)) + n;
        int nearest = -100;
        for (int parts = -20; parts <= 20; parts++) {
            if (Math.abs(parts * by - sixths) < Math.abs(nearest * by - sixths)) {
                nearest = parts;
            }
        }
        return nearest + 9;
    }

    static int step(int number, int n) {
        long floor = (long) Math.floor((double) number / (double) n);
        return (int) (number - floor * n);
    }

    static int equal(int name, int other) {
        if (name < 0 || name > 34 || other < 0 || other > 34) {
            return -2;
        }
        boolean same = true;
        for (int p = 0; p < 128; p++) {
            same = same && sounds(name, p) == sounds(other, p);
        }
        return name == other ? 2 : same ? 1 : 0;
    }

    static int scale(int key, int letter) {
        for (int n = key + 7; key >= 0 && key <= 14 && n <= key + 13; n++) {
            if (letter(n) == letter) {
                return sign(n) + 2;
            }
        }
        return -2;
    }
}
