import java.util.ArrayList;
import java.util.Arrays;
import java.util.Comparator;
import java.util.List;
import java.util.TreeMap;
import java.util.TreeSet;

/** The document word by word, in the plainest way: what DrainOffice is set beside in ModelTest. */
final class Model {
    private static final class Tube {
        int kind;
        int width;
        int fall;
        int[] places;
        int[] levels;
        int intoPipe = -1;
        int intoDitch = -1;
        boolean blocked;
        int water;
        int life;
        int passed;

        Tube copy() {
            Tube t = new Tube();
            t.kind = kind;
            t.width = width;
            t.fall = fall;
            t.places = places;
            t.levels = levels;
            t.intoPipe = intoPipe;
            t.intoDitch = intoDitch;
            t.blocked = blocked;
            t.water = water;
            t.life = life;
            t.passed = passed;
            return t;
        }

        boolean lateral() {
            return kind == 0 || kind == 2;
        }

        boolean main() {
            return kind == 1 || kind == 3;
        }

        int bears() {
            return width * width * (fall + 5);
        }

        int holds() {
            return 40 * width * places.length;
        }

        int indexOf(int place) {
            for (int k = 0; k < places.length; k++) {
                if (places[k] == place) {
                    return k;
                }
            }
            return -1;
        }
    }

    private int rows = 1;
    private int columns = 1;
    private int[] height = {0};
    private int[] soilAt = {0};
    private int[][] soils = new int[4][4];
    private int[] ditch = new int[4];
    private List<Tube> tubes = new ArrayList<>();
    private int[] trench;
    private int[] stands = {0};
    private int[] wet = {0};
    private int[] rain = {0};
    private int[] gone = new int[4];
    private int fell;
    private int hours;
    private TreeSet<Integer> marked = new TreeSet<>();
    private TreeSet<Integer> sight = new TreeSet<>();
    private Model kept;

    private Model copy() {
        Model m = new Model();
        m.take(this);
        return m;
    }

    private void take(Model m) {
        rows = m.rows;
        columns = m.columns;
        height = m.height.clone();
        soilAt = m.soilAt.clone();
        for (int s = 0; s < 4; s++) {
            soils[s] = m.soils[s].clone();
        }
        ditch = m.ditch.clone();
        tubes = new ArrayList<>();
        for (Tube t : m.tubes) {
            tubes.add(t.copy());
        }
        trench = m.trench;
        stands = m.stands.clone();
        wet = m.wet.clone();
        rain = m.rain.clone();
        gone = m.gone.clone();
        fell = m.fell;
        hours = m.hours;
        marked = new TreeSet<>(m.marked);
        sight = new TreeSet<>(m.sight);
    }

    private boolean place(int p) {
        return p >= 0 && p < rows * columns;
    }

    private boolean tube(int p) {
        return p >= 0 && p < tubes.size();
    }

    int land(int r, int c) {
        if (r < 1 || r > 6 || c < 1 || c > 6) {
            return -1;
        }
        Model fresh = new Model();
        fresh.soils = soils;
        fresh.ditch = ditch;
        fresh.rows = r;
        fresh.columns = c;
        fresh.height = new int[r * c];
        Arrays.fill(fresh.height, 1000);
        fresh.soilAt = new int[r * c];
        fresh.stands = new int[r * c];
        fresh.wet = new int[r * c];
        fresh.rain = new int[r * c];
        take(fresh);
        return r * c;
    }

    int height(int p, int h) {
        if (!place(p) || h < 0 || h > 2000) {
            return -1;
        }
        height[p] = h;
        return 1;
    }

    int soil(int p, int s) {
        if (!place(p) || s < 0 || s > 3) {
            return -1;
        }
        soilAt[p] = s;
        return 1;
    }

    int soils(int s, int takes, int gives, int keeps, int reaches) {
        if (s < 0 || s > 3 || takes < 0 || takes > 200 || gives < 0 || gives > 100
                || keeps < 0 || keeps > 1000 || reaches < 0 || reaches > 40) {
            return -1;
        }
        soils[s] = new int[] {takes, gives, keeps, reaches};
        return 1;
    }

    int ditch(int d, int level) {
        if (d < 0 || d > 3 || level < 0 || level > 2000) {
            return -1;
        }
        ditch[d] = level;
        return 1;
    }

    int trench(int a, int b, int level, int fall) {
        if (!place(a) || !place(b) || a == b || level < 0 || level > 2000 || fall < 1 || fall > 50) {
            return -1;
        }
        if (a / columns != b / columns && a % columns != b % columns) {
            return -1;
        }
        trench = new int[] {a, b, level, fall};
        return way(a, b).length;
    }

    private int[] way(int a, int b) {
        List<Integer> way = new ArrayList<>();
        int row = a / columns;
        int column = a % columns;
        way.add(a);
        while (row * columns + column != b) {
            row += Integer.signum(b / columns - row);
            column += Integer.signum(b % columns - column);
            way.add(row * columns + column);
        }
        return way.stream().mapToInt(Integer::intValue).toArray();
    }

    int pipe(int kind, int width, int life) {
        if (kind < 0 || kind > 3 || width < 1 || width > 4 || (kind == 2 && (life < 1 || life > 100))) {
            return -1;
        }
        if (trench == null) {
            return -6;
        }
        Tube t = new Tube();
        t.kind = kind;
        t.width = width;
        t.fall = trench[3];
        t.places = way(trench[0], trench[1]);
        t.levels = new int[t.places.length];
        t.life = kind == 2 ? life : 0;
        for (int k = 0; k < t.places.length; k++) {
            t.levels[k] = trench[2] - k * t.fall;
        }
        for (int k = 0; k < t.places.length; k++) {
            if (height[t.places[k]] - t.levels[k] < 60 || t.levels[k] < 0) {
                return -100 - k;
            }
        }
        if (tubes.size() == 20) {
            return -2;
        }
        tubes.add(t);
        return tubes.size() - 1;
    }

    private int rank(int p) {
        int into = tubes.get(p).intoPipe;
        return into < 0 ? 0 : 1 + rank(into);
    }

    private boolean leads(int from, int to) {
        int into = tubes.get(from).intoPipe;
        return into >= 0 && (into == to || leads(into, to));
    }

    int join(int p, int q) {
        if (!tube(p) || !tube(q)) {
            return -1;
        }
        Tube from = tubes.get(p);
        Tube to = tubes.get(q);
        int last = from.places.length - 1;
        int k = to.indexOf(from.places[last]);
        if (from.kind == 3 || !to.main() || k < 0) {
            return -3;
        }
        if (from.levels[last] < to.levels[k]) {
            return -4;
        }
        if (p == q || leads(q, p)) {
            return -5;
        }
        from.intoPipe = q;
        return rank(p);
    }

    /** Whether join(p, q) would be taken. */
    boolean mayJoin(int p, int q) {
        return copy().join(p, q) >= 0;
    }

    int open(int p, int d) {
        if (!tube(p) || d < 0 || d > 3) {
            return -1;
        }
        if (tubes.get(p).kind != 3) {
            return -3;
        }
        tubes.get(p).intoDitch = d;
        return 1;
    }

    int part(int p) {
        if (!tube(p)) {
            return -1;
        }
        Tube t = tubes.get(p);
        int did = t.intoPipe < 0 && t.intoDitch < 0 ? 0 : 1;
        t.intoPipe = -1;
        t.intoDitch = -1;
        return did;
    }

    int block(int p, boolean is) {
        if (!tube(p)) {
            return -1;
        }
        boolean was = tubes.get(p).blocked;
        tubes.get(p).blocked = is;
        return was == is ? 0 : 1;
    }

    int of(int p, int what) {
        if (!tube(p) || what < 0 || what > 11) {
            return -1;
        }
        Tube t = tubes.get(p);
        int into = t.intoPipe >= 0 ? t.intoPipe : t.intoDitch >= 0 ? 100 + t.intoDitch : -1;
        int peak = 0;
        for (Tube other : tubes) {
            peak += other.intoPipe == p ? other.bears() : 0;
        }
        return new int[] {t.kind, t.places.length, t.width, t.bears(), t.holds(), rank(p), into,
            t.blocked ? 1 : 0, t.water, t.life, Math.min(peak, t.bears()), t.passed}[what];
    }

    int step(int p, int k, int what) {
        if (!tube(p) || k < 0 || k >= tubes.get(p).places.length || what < 0 || what > 2) {
            return -10000;
        }
        Tube t = tubes.get(p);
        return new int[] {t.places[k], t.levels[k], height[t.places[k]] - t.levels[k]}[what];
    }

    int rain(int p, int r) {
        if ((p != -1 && !place(p)) || r < 0 || r > 300) {
            return -1;
        }
        for (int i = 0; i < rain.length; i++) {
            rain[i] = p == -1 || p == i ? r : rain[i];
        }
        return 1;
    }

    int hours(int n) {
        if (n < 1 || n > 50) {
            return -1;
        }
        int before = Arrays.stream(gone).sum();
        for (int i = 0; i < n; i++) {
            hour();
        }
        return Arrays.stream(gone).sum() - before;
    }

    private void hour() {
        hours++;
        for (int p = 0; p < rain.length; p++) {
            stands[p] += rain[p];
            fell += rain[p];
        }
        for (int p = 0; p < rain.length; p++) {
            int[] soil = soils[soilAt[p]];
            for (int drop = 0; drop < soil[0] && stands[p] > 0 && wet[p] < soil[2]; drop++) {
                stands[p]--;
                wet[p]++;
            }
        }
        for (int p = 0; p < rain.length; p++) {
            for (Tube t : tubes) {
                if (t.lateral() && t.indexOf(p) >= 0 && !t.blocked && !(t.kind == 2 && t.life == 0)) {
                    int given = Math.min(wet[p] * soils[soilAt[p]][1] / 100, t.holds() - t.water);
                    wet[p] -= given;
                    t.water += given;
                }
            }
        }
        for (Tube t : tubes) {
            t.passed = 0;
        }
        for (int rank = 0; rank < 20; rank++) {
            for (int p = 0; p < tubes.size(); p++) {
                if (rank(p) == rank && !tubes.get(p).blocked) {
                    pass(tubes.get(p));
                }
            }
        }
        for (Tube t : tubes) {
            t.life = Math.max(0, t.life - 1);
        }
    }

    private void pass(Tube t) {
        int most = Math.min(t.water, t.bears());
        if (t.intoDitch >= 0 && ditch[t.intoDitch] <= t.levels[t.levels.length - 1]) {
            t.passed = most;
            gone[t.intoDitch] += most;
        } else if (t.intoPipe >= 0) {
            Tube to = tubes.get(t.intoPipe);
            t.passed = Math.min(most, to.holds() - to.water);
            to.water += t.passed;
        }
        t.water -= t.passed;
    }

    private boolean reached(int p) {
        for (Tube t : tubes) {
            for (int s : t.places) {
                int r = s / columns - p / columns;
                int c = s % columns - p % columns;
                if (t.lateral() && r * r + c * c <= soils[soilAt[p]][3]) {
                    return true;
                }
            }
        }
        return false;
    }

    private List<Integer> dryPlaces() {
        List<Integer> dry = new ArrayList<>();
        for (int p = 0; p < rows * columns; p++) {
            if (!reached(p)) {
                dry.add(p);
            }
        }
        return dry;
    }

    int at(int p, int what) {
        if (!place(p) || what < 0 || what > 5) {
            return -1;
        }
        return new int[] {height[p], soilAt[p], stands[p], wet[p], rain[p], reached(p) ? 1 : 0}[what];
    }

    int all(int what) {
        if (what < 0 || what > 7) {
            return -1;
        }
        int inTubes = tubes.stream().mapToInt(t -> t.water).sum();
        return new int[] {Arrays.stream(stands).sum(), Arrays.stream(wet).sum(), inTubes,
            gone[0], gone[1], gone[2], gone[3], fell}[what];
    }

    int many(int what) {
        if (what < 0 || what > 6) {
            return -1;
        }
        int blocked = (int) tubes.stream().filter(t -> t.blocked).count();
        return new int[] {rows * columns, tubes.size(), hours, dryPlaces().size(), marked.size(),
            sight.size(), blocked}[what];
    }

    int dry(int i) {
        List<Integer> dry = dryPlaces();
        return i < 0 || i >= dry.size() ? -6 : dry.get(i);
    }

    int mark(int p, boolean is) {
        if (!place(p)) {
            return -1;
        }
        return (is ? marked.add(p) : marked.remove(p)) ? 1 : 0;
    }

    private int cost(int a, int b) {
        return 10 * (Math.abs(a / columns - b / columns) + Math.abs(a % columns - b % columns))
                + Math.abs(height[a] - height[b]);
    }

    private List<int[]> treePairs() {
        List<int[]> pairs = new ArrayList<>();
        for (int a : marked) {
            for (int b : marked.tailSet(a, false)) {
                pairs.add(new int[] {cost(a, b), a, b});
            }
        }
        pairs.sort(Comparator.<int[]>comparingInt(p -> p[0]).thenComparingInt(p -> p[1])
                .thenComparingInt(p -> p[2]));
        TreeMap<Integer, TreeSet<Integer>> hangs = new TreeMap<>();
        for (int a : marked) {
            hangs.put(a, new TreeSet<>(List.of(a)));
        }
        List<int[]> taken = new ArrayList<>();
        for (int[] p : pairs) {
            if (!hangs.get(p[1]).contains(p[2])) {
                TreeSet<Integer> both = new TreeSet<>(hangs.get(p[1]));
                both.addAll(hangs.get(p[2]));
                for (int member : both) {
                    hangs.put(member, both);
                }
                taken.add(p);
            }
        }
        return taken;
    }

    int tree() {
        return treePairs().stream().mapToInt(p -> p[0]).sum();
    }

    int pair(int i) {
        List<int[]> pairs = treePairs();
        return i < 0 || i >= pairs.size() ? -6 : 100 * pairs.get(i)[1] + pairs.get(i)[2];
    }

    int sight(int p, boolean is) {
        if (!place(p)) {
            return -1;
        }
        return (is ? sight.add(p) : sight.remove(p)) ? 1 : 0;
    }

    private TreeSet<Integer> standing() {
        TreeSet<Integer> standing = new TreeSet<>();
        for (int p = 0; p < stands.length; p++) {
            if (stands[p] > 0) {
                standing.add(p);
            }
        }
        return standing;
    }

    int see() {
        sight = standing();
        return sight.size();
    }

    private boolean fits(int h, int... more) {
        Model trial = copy();
        for (int p : more) {
            trial.tubes.get(p).blocked = true;
        }
        trial.hours(h);
        return trial.standing().equals(sight);
    }

    int where(int h, int k) {
        if (h < 1 || h > 20 || k < 0) {
            return -1;
        }
        List<Integer> fit = new ArrayList<>();
        if (fits(h)) {
            fit.add(9999);
        }
        for (int p = 0; p < tubes.size(); p++) {
            if (!tubes.get(p).blocked && fits(h, p)) {
                fit.add(p);
            }
        }
        for (int p = 0; p < tubes.size(); p++) {
            for (int q = p + 1; q < tubes.size(); q++) {
                if (!tubes.get(p).blocked && !tubes.get(q).blocked && fits(h, p, q)) {
                    fit.add(100 * (p + 1) + q);
                }
            }
        }
        return k < fit.size() ? fit.get(k) : -6;
    }

    int keep() {
        kept = copy();
        return 1;
    }

    int back() {
        if (kept == null) {
            return -6;
        }
        take(kept);
        return 1;
    }
}
