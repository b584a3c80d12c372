import java.util.ArrayDeque;
import java.util.ArrayList;
import java.util.Arrays;
import java.util.Deque;
import java.util.List;

/** The document once more, as plainly and slowly as it can be told: random runs are compared with it. */
final class Model {
    private static final int NONE = -1;
    private final StringBuilder tape = new StringBuilder();
    private int place = NONE;
    private ModelText text = new ModelText();
    private World now = new World(text);
    private final Deque<World> past = new ArrayDeque<>();
    private final World[] slots = new World[3];
    private final List<int[]> told = new ArrayList<>();

    /** What goes on. */
    static final class World {
        int night = 0;
        int[] out;
        int[] slip;
        int[] by;
        int[] met;
        int[][] pair;

        World(ModelText t) {
            out = t.dials.stream().mapToInt(d -> d[0] % t.hours).toArray();
            slip = t.dials.stream().mapToInt(d -> d[1] % t.hours).toArray();
            by = t.goers.stream().mapToInt(g -> g[0]).toArray();
            met = new int[by.length];
            pair = new int[by.length][by.length];
        }

        World(World w) {
            night = w.night;
            out = w.out.clone();
            slip = w.slip.clone();
            by = w.by.clone();
            met = w.met.clone();
            pair = new int[w.pair.length][];
            for (int i = 0; i < pair.length; i++) {
                pair[i] = w.pair[i].clone();
            }
        }
    }

    // ---- what is

    private int hours() {
        return text.hours;
    }

    private int goers() {
        return text.goers.size();
    }

    private int dials() {
        return text.dials.size();
    }

    private int from(int goer) {
        return text.goers.get(goer)[1] % hours();
    }

    private int law(World w, int law, int goer) {
        int d = w.by[goer];
        int[] vars = {w.night, w.out[d], w.slip[d], from(goer), text.goers.get(goer)[2], w.met[goer], goer, hours(),
            goers()};
        return text.laws[law].of(vars);
    }

    private boolean comes(World w, int goer) {
        return law(w, 0, goer) > 0;
    }

    private int stays(World w, int goer) {
        return Math.max(0, Math.min(hours(), law(w, 1, goer)));
    }

    private int worth(World w, int goer) {
        return Math.max(0, Math.min(99, law(w, 2, goer)));
    }

    private int dims(World w, int dial) {
        int[] vars = {w.night, w.out[dial], w.slip[dial], 0, 0, 0, dial, hours(), goers()};
        return Math.max(0, Math.min(100, text.laws[3].of(vars)));
    }

    static int lot(int n, int seed, int which) {
        int h = seed;
        for (int it : new int[] {203, which}) {
            h = (h ^ it) * 1103515245 + 12345;
            h = h ^ (h >>> 15);
        }
        return (h >>> 1) % n;
    }

    private boolean eclipse(World w, int dial, int seed) {
        return lot(100, seed, 8 * w.night + dial) < dims(w, dial);
    }

    private int shown(World w, int dial, int hour, Integer seed) {
        int out = w.out[dial];
        if (seed != null && eclipse(w, dial, seed)) {
            out = lot(hours(), seed, 100000 + 8 * w.night + dial);
        }
        return (hour + out) % hours();
    }

    private boolean isThere(World w, int goer, int hour, Integer seed) {
        if (!comes(w, goer)) {
            return false;
        }
        int x = shown(w, w.by[goer], hour, seed) - from(goer);
        if (x < 0) {
            x += hours();
        }
        return x < stays(w, goer);
    }

    private boolean[][] thereAll(World w, Integer seed) {
        boolean[][] t = new boolean[goers()][hours()];
        for (int g = 0; g < goers(); g++) {
            for (int h = 0; h < hours(); h++) {
                t[g][h] = isThere(w, g, h, seed);
            }
        }
        return t;
    }

    private int whoAt(boolean[][] t, int hour) {
        int who = 0;
        for (int g = 0; g < t.length; g++) {
            if (t[g][hour]) {
                who |= 1 << g;
            }
        }
        return who;
    }

    private World next(World w, Integer seed) {
        World v = new World(w);
        boolean[][] t = thereAll(w, seed);
        for (int h = 0; h < hours(); h++) {
            for (int a = 0; a < goers(); a++) {
                boolean anybody = false;
                for (int b = 0; b < goers(); b++) {
                    if (a != b && t[a][h] && t[b][h]) {
                        v.pair[a][b]++;
                        anybody = true;
                    }
                }
                if (anybody) {
                    v.met[a]++;
                }
            }
        }
        for (int d = 0; d < dials(); d++) {
            v.out[d] = (v.out[d] + v.slip[d]) % hours();
        }
        v.night++;
        return v;
    }

    /** The worlds behind 0 .. n nights. */
    private World[] run(World from, int n, Integer seed) {
        World[] all = new World[n + 1];
        all[0] = from;
        for (int i = 1; i <= n; i++) {
            all[i] = next(all[i - 1], seed);
        }
        return all;
    }

    // ---- tests of arguments

    private boolean isDial(int d) {
        return 0 <= d && d < dials();
    }

    private boolean isGoer(int g) {
        return 0 <= g && g < goers();
    }

    private boolean isHour(int h) {
        return 0 <= h && h < hours();
    }

    private boolean two(int a, int b) {
        return isGoer(a) && isGoer(b) && a != b;
    }

    private boolean isSet(int set) {
        int size = 0;
        for (int g = 0; g < 32; g++) {
            if ((set >>> g & 1) == 1) {
                size++;
                if (!isGoer(g)) {
                    return false;
                }
            }
        }
        return size >= 2;
    }

    private static boolean in(int x, int least, int most) {
        return least <= x && x <= most;
    }

    // ---- the face

    int feed(int a, int b, int c, int d, int e) {
        if (tape.length() + 20 > 2000) {
            return NONE;
        }
        for (int x : new int[] {a, b, c, d, e}) {
            for (int i = 3; i >= 0; i--) {
                tape.append((char) (x >>> 8 * i & 255));
            }
        }
        return tape.length();
    }

    int back(int n) {
        if (n < 0 || n > tape.length()) {
            return NONE;
        }
        tape.setLength(tape.length() - n);
        return tape.length();
    }

    int read() {
        String s = tape.toString();
        tape.setLength(0);
        ModelText t = new ModelText();
        int[] fault = t.readAll(s);
        place = fault == null ? NONE : fault[1];
        if (fault != null) {
            return fault[0];
        }
        text = t;
        now = new World(t);
        past.clear();
        told.clear();
        Arrays.fill(slots, null);
        return 0;
    }

    int place() {
        return place;
    }

    int dial(int d, int what) {
        if (!isDial(d) || !in(what, 0, 3)) {
            return NONE;
        }
        return new int[] {now.out[d], now.slip[d], dims(now, d), eclipse(now, d, text.seed) ? 1 : 0}[what];
    }

    int shows(int d, int h) {
        return isDial(d) && isHour(h) ? shown(now, d, h, null) : NONE;
    }

    int goer(int g, int what) {
        if (!isGoer(g) || !in(what, 0, 6)) {
            return NONE;
        }
        return new int[] {now.by[g], from(g), text.goers.get(g)[2], comes(now, g) ? 1 : 0, stays(now, g), worth(now, g),
            now.met[g]}[what];
    }

    int together(int a, int b) {
        return two(a, b) ? now.pair[a][b] : NONE;
    }

    int there(int h) {
        return isHour(h) ? whoAt(thereAll(now, null), h) : NONE;
    }

    private void done() {
        past.push(new World(now));
        if (past.size() > 40) {
            past.removeLast();
        }
    }

    int turn(int d, int k) {
        if (!isDial(d) || !in(k, 1, hours() - 1)) {
            return NONE;
        }
        done();
        now.out[d] = (now.out[d] + k) % hours();
        return now.out[d];
    }

    boolean follow(int g, int d) {
        if (!isGoer(g) || !isDial(d) || now.by[g] == d) {
            return false;
        }
        done();
        now.by[g] = d;
        return true;
    }

    boolean slip(int d, int s) {
        if (!isDial(d) || !in(s, 0, hours() - 1) || now.slip[d] == s) {
            return false;
        }
        done();
        now.slip[d] = s;
        return true;
    }

    int nights(int n) {
        if (!in(n, 0, 200)) {
            return NONE;
        }
        if (n > 0) {
            done();
            for (int i = 0; i < n; i++) {
                now = next(now, text.seed);
            }
        }
        return now.night;
    }

    boolean undo() {
        if (past.isEmpty()) {
            return false;
        }
        now = past.pop();
        return true;
    }

    /** Behind how many nights, the hour, how many hours; null: not. */
    private int[] meeting(World from, int set, int n) {
        World w = from;
        for (int i = 0; i <= n; i++) {
            int hour = -1;
            int size = 0;
            for (int h = 0; h < hours(); h++) {
                boolean all = true;
                for (int g = 0; g < goers(); g++) {
                    all = all && ((set >> g & 1) == 0 || isThere(w, g, h, null));
                }
                if (all) {
                    hour = hour < 0 ? h : hour;
                    size++;
                }
            }
            if (size > 0) {
                return new int[] {i, hour, size};
            }
            w = next(w, null);
        }
        return null;
    }

    int meet(int set, int what) {
        if (!isSet(set) || !in(what, 0, 2)) {
            return NONE;
        }
        int[] m = meeting(now, set, 400);
        return m == null ? -2 : m[what];
    }

    private int oftenFrom(World from, int a, int b, int n) {
        World end = run(from, n, null)[n];
        return end.pair[a][b] - from.pair[a][b];
    }

    int often(int a, int b, int n) {
        return two(a, b) && in(n, 0, 200) ? oftenFrom(now, a, b, n) : NONE;
    }

    int alone(int g, int n) {
        if (!isGoer(g) || !in(n, 0, 200)) {
            return NONE;
        }
        int sum = 0;
        World[] all = run(now, n, null);
        for (int i = 0; i < n; i++) {
            boolean[][] t = thereAll(all[i], null);
            for (int h = 0; h < hours(); h++) {
                sum += whoAt(t, h) == 1 << g ? 1 : 0;
            }
        }
        return sum;
    }

    int earns(int g, int n) {
        if (!isGoer(g) || !in(n, 0, 200)) {
            return NONE;
        }
        int sum = 0;
        World[] all = run(now, n, null);
        for (int i = 0; i < n; i++) {
            sum += (all[i + 1].met[g] - all[i].met[g]) * worth(all[i], g);
        }
        return sum;
    }

    int right(int d) {
        if (!isDial(d)) {
            return NONE;
        }
        World[] all = run(now, 50, null);
        for (int i = 0; i <= 50; i++) {
            if (all[i].out[d] == 0) {
                return i;
            }
        }
        return -2;
    }

    int agree(int d, int e) {
        if (!isDial(d) || !isDial(e)) {
            return NONE;
        }
        World[] all = run(now, 50, null);
        for (int i = 0; i <= 50; i++) {
            if (all[i].out[d] == all[i].out[e]) {
                return i;
            }
        }
        return -2;
    }

    int round() {
        World w = next(now, null);
        int i = 1;
        while (!Arrays.equals(w.out, now.out)) {
            w = next(w, null);
            i++;
        }
        return i;
    }

    private World turned(int d, int k) {
        World w = new World(now);
        w.out[d] = (w.out[d] + k) % hours();
        return w;
    }

    int turns(int d, int set, int n) {
        if (!isDial(d) || !isSet(set) || !in(n, 0, 60)) {
            return NONE;
        }
        for (int k = 0; k < hours(); k++) {
            if (meeting(turned(d, k), set, n) != null) {
                return k;
            }
        }
        return -2;
    }

    int parts(int d, int set, int n) {
        if (!isDial(d) || !isSet(set) || !in(n, 0, 60)) {
            return NONE;
        }
        for (int k = 0; k < hours(); k++) {
            if (meeting(turned(d, k), set, n) == null) {
                return k;
            }
        }
        return -2;
    }

    int knot(int d, int set, int without, int n) {
        if (!isDial(d) || !isSet(set) || !isSet(without) || !in(n, 0, 60)) {
            return NONE;
        }
        for (int k = 0; k < hours(); k++) {
            if (meeting(turned(d, k), set, n) != null && meeting(turned(d, k), without, n) == null) {
                return k;
            }
        }
        return -2;
    }

    int mend(int d, int set, int n) {
        if (!isDial(d) || !isSet(set) || !in(n, 0, 60)) {
            return NONE;
        }
        for (int s = 0; s < hours(); s++) {
            World w = new World(now);
            w.slip[d] = s;
            if (meeting(w, set, n) != null) {
                return s;
            }
        }
        return -2;
    }

    int sooner(int what) {
        if (!in(what, 0, 1)) {
            return NONE;
        }
        int[] best = null;
        for (int a = 0; a < goers(); a++) {
            for (int b = a + 1; b < goers(); b++) {
                int[] m = meeting(now, 1 << a | 1 << b, 400);
                if (m != null && (best == null || m[0] < best[1])) {
                    best = new int[] {10 * a + b, m[0]};
                }
            }
        }
        return best == null ? -2 : best[what];
    }

    int strangers(int g) {
        if (!isGoer(g)) {
            return NONE;
        }
        int bits = 0;
        for (int o = 0; o < goers(); o++) {
            if (o != g && meeting(now, 1 << g | 1 << o, 400) == null) {
                bits |= 1 << o;
            }
        }
        return bits;
    }

    private World by(int g, int d) {
        World w = new World(now);
        w.by[g] = d;
        return w;
    }

    int by(int g, int o, int n, int what) {
        if (!two(g, o) || !in(n, 0, 200) || !in(what, 0, 1)) {
            return NONE;
        }
        int[] best = null;
        for (int d = 0; d < dials(); d++) {
            int often = oftenFrom(by(g, d), g, o, n);
            if (best == null || often > best[1]) {
                best = new int[] {d, often};
            }
        }
        return best[what];
    }

    int peace(int n, int what) {
        if (!in(n, 0, 60) || !in(what, 0, 1)) {
            return NONE;
        }
        for (int size = 0; size <= goers(); size++) {
            for (int set = 0; set < 1 << goers(); set++) {
                boolean peace = Integer.bitCount(set) == size;
                for (int a = 0; a < goers(); a++) {
                    for (int b = 0; b < a; b++) {
                        if ((set >> a & 1) == 0 && (set >> b & 1) == 0 && oftenFrom(now, a, b, n) > 0) {
                            peace = false;
                        }
                    }
                }
                if (peace) {
                    return what == 0 ? size : set;
                }
            }
        }
        throw new IllegalStateException();
    }

    int favourite(int n, int what) {
        if (!in(n, 0, 60) || !in(what, 0, 1)) {
            return NONE;
        }
        int[] in = new int[hours()];
        World[] all = run(now, n, null);
        for (int i = 0; i < n; i++) {
            boolean[][] t = thereAll(all[i], null);
            for (int h = 0; h < hours(); h++) {
                in[h] += Integer.bitCount(whoAt(t, h)) >= 2 ? 1 : 0;
            }
        }
        return firstMost(in)[what];
    }

    private static int[] firstMost(int[] row) {
        int most = Arrays.stream(row).max().getAsInt();
        for (int i = 0; i < row.length; i++) {
            if (row[i] == most) {
                return new int[] {i, most};
            }
        }
        throw new IllegalStateException();
    }

    int longest(int a, int b, int n) {
        if (!two(a, b) || !in(n, 0, 200)) {
            return NONE;
        }
        int longest = 0;
        World[] all = run(now, n, null);
        for (int i = 0; i < n; i++) {
            longest = Math.max(longest, all[i + 1].pair[a][b] - all[i].pair[a][b]);
        }
        return longest;
    }

    int couples(int n, int i) {
        if (!in(n, 0, 60) || (i != NONE && !isGoer(i))) {
            return NONE;
        }
        World end = run(now, n, null)[n];
        int size = goers();
        int most = -1;
        int[] best = null;
        int codes = 1;
        for (int g = 0; g < size; g++) {
            codes *= size + 1;
        }
        // Every row of partners, the first goer's counting highest, -1 (nobody) ahead of all.
        for (int code = 0; code < codes; code++) {
            int[] row = new int[size];
            int rest = code;
            for (int g = size - 1; g >= 0; g--) {
                row[g] = rest % (size + 1) - 1;
                rest /= size + 1;
            }
            int sum = 0;
            boolean fair = true;
            for (int g = 0; g < size; g++) {
                fair = fair && (row[g] < 0 || row[g] != g && row[row[g]] == g);
                if (fair && row[g] > g) {
                    sum += end.pair[g][row[g]] - now.pair[g][row[g]];
                }
            }
            if (fair && sum > most) {
                most = sum;
                best = row;
            }
        }
        return i == NONE ? most : best[i] < 0 ? -2 : best[i];
    }

    int fullest(int what) {
        if (!in(what, 0, 1)) {
            return NONE;
        }
        int[] sizes = new int[hours()];
        for (int h = 0; h < hours(); h++) {
            sizes[h] = Integer.bitCount(there(h));
        }
        return firstMost(sizes)[what];
    }

    private int[] play(World w, int d, int left, boolean first) {
        if (left == 0) {
            return new int[] {0, 0};
        }
        int[] best = null;
        for (int k = 0; k <= 2; k++) {
            World v = new World(w);
            v.out[d] = (v.out[d] + k) % hours();
            World u = next(v, null);
            int sum = u.pair[0][1] - v.pair[0][1] + play(u, d, left - 1, !first)[0];
            if (best == null || (first ? sum > best[0] : sum < best[0])) {
                best = new int[] {sum, k};
            }
        }
        return best;
    }

    int game(int d, int n, int what) {
        return goers() < 2 || !isDial(d) || !in(n, 1, 6) || !in(what, 0, 1) ? NONE : play(now, d, n, true)[what];
    }

    int metIn(int g, int n) {
        return isGoer(g) && in(n, 0, 200) ? run(now, n, text.seed)[n].met[g] : NONE;
    }

    int outIn(int d, int n) {
        return isDial(d) && in(n, 0, 200) ? run(now, n, text.seed)[n].out[d] : NONE;
    }

    int year(int a, int b, int n, int s) {
        if (!two(a, b) || !in(n, 0, 200) || !in(s, 1, 20)) {
            return NONE;
        }
        int found = 0;
        for (int seed = text.seed; seed < text.seed + s; seed++) {
            World w = run(now, n, seed)[n];
            boolean[][] t = thereAll(w, seed);
            boolean both = false;
            for (int h = 0; h < hours(); h++) {
                both = both || t[a][h] && t[b][h];
            }
            found += both ? 1 : 0;
        }
        return found;
    }

    int tell(int i, int h, boolean so) {
        if (!in(i, 0, 30) || !isHour(h) || told.size() == 20) {
            return NONE;
        }
        told.add(new int[] {i, h, so ? 1 : 0});
        return told.size() - 1;
    }

    int forget() {
        int size = told.size();
        told.clear();
        return size;
    }

    private int fitting(List<int[]> known, int g) {
        int bits = 0;
        for (int d = 0; d < dials(); d++) {
            World[] all = run(by(g, d), 30, null);
            boolean fits = true;
            for (int[] t : known) {
                fits = fits && isThere(all[t[0]], g, t[1], null) == (t[2] == 1);
            }
            bits |= fits ? 1 << d : 0;
        }
        return bits;
    }

    int fits(int k, int g, int what) {
        if (!in(k, 0, told.size()) || !isGoer(g) || !in(what, 0, 1)) {
            return NONE;
        }
        int bits = fitting(told.subList(0, k), g);
        return what == 0 ? Integer.bitCount(bits) : bits;
    }

    int look(int k, int g, int h) {
        if (!in(k, 0, told.size()) || !isGoer(g) || !isHour(h)) {
            return NONE;
        }
        if (fitting(told.subList(0, k), g) == 0) {
            return -2;
        }
        int best = -1;
        int fewest = Integer.MAX_VALUE;
        for (int i = 0; i <= 30; i++) {
            int worst = 0;
            for (int so = 0; so <= 1; so++) {
                List<int[]> known = new ArrayList<>(told.subList(0, k));
                known.add(new int[] {i, h, so});
                worst = Math.max(worst, Integer.bitCount(fitting(known, g)));
            }
            if (worst < fewest) {
                fewest = worst;
                best = i;
            }
        }
        return best;
    }

    boolean hold(int s) {
        if (!in(s, 0, 2)) {
            return false;
        }
        slots[s] = new World(now);
        return true;
    }

    boolean restore(int s) {
        if (!in(s, 0, 2) || slots[s] == null) {
            return false;
        }
        now = new World(slots[s]);
        past.clear();
        return true;
    }

    int count(int what) {
        int sum = 0;
        int pairs = 0;
        int coming = 0;
        int nobody = 0;
        for (int a = 0; a < goers(); a++) {
            for (int b = 0; b < a; b++) {
                sum += now.pair[a][b];
                pairs += now.pair[a][b] > 0 ? 1 : 0;
            }
            coming |= comes(now, a) ? 1 << a : 0;
            nobody |= now.met[a] == 0 ? 1 << a : 0;
        }
        int dark = 0;
        int right = 0;
        int unused = 0;
        for (int d = 0; d < dials(); d++) {
            int dial = d;
            dark |= eclipse(now, d, text.seed) ? 1 << d : 0;
            right |= now.out[d] == 0 ? 1 << d : 0;
            unused |= Arrays.stream(now.by).noneMatch(b -> b == dial) ? 1 << d : 0;
        }
        int empty = 0;
        int shared = 0;
        for (int h = 0; h < hours(); h++) {
            int size = Integer.bitCount(there(h));
            empty |= size == 0 ? 1 << h : 0;
            shared |= size >= 2 ? 1 << h : 0;
        }
        int held = 0;
        for (World w : slots) {
            held += w != null ? 1 : 0;
        }
        int[] all = {hours(), dials(), goers(), now.night, sum, coming, empty, dark, tape.length(), past.size(),
            told.size(), held, right, shared, pairs, unused, nobody};
        return in(what, 0, all.length - 1) ? all[what] : NONE;
    }
}
