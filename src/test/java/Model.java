import java.util.ArrayList;
import java.util.Arrays;
import java.util.HashMap;
import java.util.HashSet;
import java.util.List;
import java.util.Map;
import java.util.NoSuchElementException;
import java.util.Set;

/**
 * The document written once more, as plainly as can be and by other ways than the class takes: all rows are tried, ways
 * are followed forward, nets are solved by a simplex over fractions. Slow; for tests alone.
 */
final class Model {
    static final int NONE = -1;
    static final int[] COS = {1000, 985, 940, 866, 766, 643, 500, 342, 174};
    static final int[] SIN = {0, 174, 342, 500, 643, 766, 866, 940, 985};

    // ---- strips

    int parts = 0;
    int up;
    int[] pile;
    boolean[] openCreases = new boolean[0];
    static final Map<Integer, int[][]> PILES = new HashMap<>();

    static void permute(int[] row, int from, List<int[]> all) {
        if (from == row.length) {
            all.add(row.clone());
            return;
        }
        for (int i = from; i < row.length; i++) {
            int[] next = row.clone();
            int moved = next[i];
            System.arraycopy(row, from, next, from + 1, i - from);
            next[from] = moved;
            permute(next, from + 1, all);
        }
    }

    static List<int[]> permutations(int n) {
        int[] row = new int[n];
        for (int i = 0; i < n; i++) {
            row[i] = i;
        }
        List<int[]> all = new ArrayList<>();
        permute(row, 0, all);
        return all;
    }

    static boolean liesSo(int[] row, int up) {
        int n = row.length;
        int[] layer = new int[n];
        for (int k = 0; k < n; k++) {
            layer[row[k]] = k;
        }
        for (int i = 0; i < n - 1; i++) {
            boolean isUp = (up & (1 << i)) != 0;
            boolean above = i % 2 == 0 && isUp || i % 2 == 1 && !isUp;
            if (above != layer[i + 1] > layer[i]) {
                return false;
            }
            for (int j = 0; j < n - 1; j++) {
                if (j != i && j % 2 == i % 2) {
                    int low = Math.min(layer[i], layer[i + 1]);
                    int high = Math.max(layer[i], layer[i + 1]);
                    boolean one = layer[j] > low && layer[j] < high;
                    boolean other = layer[j + 1] > low && layer[j + 1] < high;
                    if (one != other) {
                        return false;
                    }
                }
            }
        }
        return true;
    }

    static int[][] pilesOf(int n, int up) {
        return PILES.computeIfAbsent(n * 1000 + up, key -> {
            List<int[]> lying = new ArrayList<>();
            for (int[] row : permutations(n)) {
                if (liesSo(row, up)) {
                    lying.add(row);
                }
            }
            lying.sort(Arrays::compare);
            return lying.toArray(new int[0][]);
        });
    }

    int strip(int n, int bits) {
        if (n < 2 || n > 8 || bits < 0 || bits >= 1 << (n - 1)) {
            throw new IllegalArgumentException();
        }
        parts = n;
        up = bits;
        int[][] all = pilesOf(n, bits);
        pile = all[0];
        openCreases = new boolean[n - 1];
        return all.length;
    }

    int layer(int k) {
        return parts == 0 || k < 0 || k >= parts ? NONE : pile[k];
    }

    void stripIs() {
        if (parts == 0) {
            throw new IllegalStateException();
        }
    }

    boolean lies(int told) {
        stripIs();
        int[] row = new int[parts];
        Set<Integer> seen = new HashSet<>();
        long rest = told & 0xffffffffL;
        for (int k = 0; k < parts; k++) {
            row[k] = (int) (rest % 8);
            rest /= 8;
            if (row[k] >= parts || !seen.add(row[k])) {
                throw new IllegalArgumentException();
            }
        }
        if (rest != 0) {
            throw new IllegalArgumentException();
        }
        return liesSo(row, up);
    }

    boolean isClear(int crease, boolean[] open) {
        int[] layer = new int[parts];
        for (int k = 0; k < parts; k++) {
            layer[pile[k]] = k;
        }
        boolean above = true;
        boolean below = true;
        for (int a = 0; a <= crease; a++) {
            for (int b = crease + 1; b < parts; b++) {
                boolean hang = true;
                for (int i = a; i < b; i++) {
                    hang &= !open[i];
                }
                if (hang) {
                    above &= layer[a] > layer[b];
                    below &= layer[a] < layer[b];
                }
            }
        }
        return above || below;
    }

    void creaseIs(int crease) {
        stripIs();
        if (crease < 0 || crease >= parts - 1) {
            throw new IndexOutOfBoundsException();
        }
    }

    boolean clear(int crease) {
        creaseIs(crease);
        if (openCreases[crease]) {
            throw new IllegalArgumentException();
        }
        return isClear(crease, openCreases);
    }

    int open(int crease) {
        creaseIs(crease);
        if (openCreases[crease]) {
            return -1;
        }
        if (!isClear(crease, openCreases)) {
            return 0;
        }
        openCreases[crease] = true;
        return 1;
    }

    int ordersFrom(boolean[] open, List<Integer> row, List<Integer> first) {
        int sum = 0;
        boolean all = true;
        for (int i = 0; i < open.length; i++) {
            if (!open[i]) {
                all = false;
                if (isClear(i, open)) {
                    open[i] = true;
                    row.add(i);
                    sum += ordersFrom(open, row, first);
                    row.remove(row.size() - 1);
                    open[i] = false;
                }
            }
        }
        if (all) {
            if (first.isEmpty()) {
                first.addAll(row);
            }
            return 1;
        }
        return sum;
    }

    int orders() {
        stripIs();
        return ordersFrom(openCreases.clone(), new ArrayList<>(), new ArrayList<>());
    }

    int safe(int k) {
        stripIs();
        List<Integer> first = new ArrayList<>();
        ordersFrom(openCreases.clone(), new ArrayList<>(), first);
        return k < 0 || k >= first.size() ? NONE : first.get(k);
    }

    // ---- sails

    static final class Sheet {
        int x, y, area, back, kept, curl, warm;
        boolean torn;
    }

    static final class Flap {
        int panel, bend;
        boolean stuck;
    }

    final List<Sheet> panels = new ArrayList<>();
    final List<Flap> flaps = new ArrayList<>();
    int weightX, weightY;

    static void need(boolean holds) {
        if (!holds) {
            throw new IllegalArgumentException();
        }
    }

    static boolean in(int v, int low, int high) {
        return low <= v && v <= high;
    }

    void panelIs(int panel) {
        if (panel < 0 || panel >= panels.size()) {
            throw new NoSuchElementException();
        }
    }

    static void indexIs(int i, int size) {
        if (i < 0 || i >= size) {
            throw new IndexOutOfBoundsException();
        }
    }

    static boolean coatIs(int back, int kept) {
        return in(back, 0, 100) && in(kept, 0, 100) && in(back + kept, 0, 100);
    }

    int panel(int x, int y, int area, int back, int kept) {
        need(in(x, -20, 20) && in(y, -20, 20) && in(area, 1, 1000) && coatIs(back, kept));
        if (panels.size() == 16) {
            return -1;
        }
        Sheet p = new Sheet();
        p.x = x;
        p.y = y;
        p.area = area;
        p.back = back;
        p.kept = kept;
        panels.add(p);
        return panels.size() - 1;
    }

    int of(int panel, int what) {
        panelIs(panel);
        need(in(what, 0, 4));
        Sheet p = panels.get(panel);
        return new int[] {p.back, p.kept, p.torn ? 1 : 0, p.curl, p.warm}[what];
    }

    boolean tear(int panel) {
        panelIs(panel);
        boolean was = panels.get(panel).torn;
        panels.get(panel).torn = true;
        return was;
    }

    int flap(int panel) {
        panelIs(panel);
        if (flaps.size() == 4) {
            return -1;
        }
        for (Flap f : flaps) {
            if (f.panel == panel) {
                return -2;
            }
        }
        Flap f = new Flap();
        f.panel = panel;
        flaps.add(f);
        return flaps.size() - 1;
    }

    int bend(int flap, int v) {
        indexIs(flap, flaps.size());
        need(in(v, -2, 2));
        Flap f = flaps.get(flap);
        if (f.stuck) {
            return -3;
        }
        int was = f.bend;
        f.bend = v;
        return was;
    }

    boolean stuck(int flap, boolean is) {
        indexIs(flap, flaps.size());
        boolean was = flaps.get(flap).stuck;
        flaps.get(flap).stuck = is;
        return was;
    }

    void weights(int x, int y) {
        need(in(x, -20, 20) && in(y, -20, 20));
        weightX = x;
        weightY = y;
    }

    int slantOf(int panel, int slant) {
        int s = slant + panels.get(panel).curl;
        for (Flap f : flaps) {
            if (f.panel == panel) {
                s += f.bend;
            }
        }
        return s < -8 ? -8 : s > 8 ? 8 : s;
    }

    /** X, Y and PRESS of a panel. */
    long[] forces(int panel, int slant, int back, int kept) {
        Sheet p = panels.get(panel);
        if (p.torn) {
            return new long[3];
        }
        int s = slantOf(panel, slant);
        long c = COS[Math.abs(s)];
        long n = Integer.signum(s) * SIN[Math.abs(s)];
        return new long[] {
            p.area * c * (1000L * kept + 2 * back * c) / 100_000_000L,
            p.area * c * (2 * back * n) / 100_000_000L,
            p.area * c * c * (2L * back + kept) / 100_000_000L};
    }

    long[] forces(int panel, int slant) {
        return forces(panel, slant, panels.get(panel).back, panels.get(panel).kept);
    }

    long pushOf(int slant, int what) {
        long sum = 0;
        for (int i = 0; i < panels.size(); i++) {
            sum += forces(i, slant)[what];
        }
        return sum;
    }

    int push(int slant, int what) {
        need(in(slant, -8, 8) && in(what, 0, 1));
        return (int) pushOf(slant, what);
    }

    int turn(int slant, int axis) {
        need(in(slant, -8, 8) && in(axis, 0, 1));
        long sum = 0;
        for (int i = 0; i < panels.size(); i++) {
            Sheet p = panels.get(i);
            sum += forces(i, slant)[2] * (axis == 0 ? p.x - weightX : p.y - weightY);
        }
        return (int) sum;
    }

    int[] bestTrim;
    int bestAmount;

    void tryTrims(int flap, int slant) {
        if (flap == flaps.size()) {
            int amount = Math.abs(turn(slant, 0)) + Math.abs(turn(slant, 1));
            if (bestTrim == null || amount < bestAmount) {
                bestAmount = amount;
                bestTrim = flaps.stream().mapToInt(f -> f.bend).toArray();
            }
            return;
        }
        Flap f = flaps.get(flap);
        int was = f.bend;
        for (int b = -2; b <= 2; b++) {
            if (!f.stuck || b == was) {
                f.bend = b;
                tryTrims(flap + 1, slant);
            }
        }
        f.bend = was;
    }

    int trim(int slant, int what) {
        need(in(slant, -8, 8) && in(what, -1, 3));
        bestTrim = null;
        tryTrims(0, slant);
        return what == -1 ? bestAmount : what >= flaps.size() ? -3 : bestTrim[what];
    }

    // ---- worlds

    int day = 0;
    int rho = 100;
    int angle = 0;
    int goal = NONE;
    final List<int[]> worlds = new ArrayList<>();

    int strength() {
        long s = pushOf(3, 1) / 100;
        return (int) (s < 0 ? 0 : s > 20 ? 20 : s);
    }

    int steps(int at) {
        return 1 + strength() * 32 / (at + 32);
    }

    int world(int r, int a, int speed) {
        need(in(r, 0, 255) && in(a, 0, 71) && in(speed, 0, 10));
        if (worlds.size() == 4) {
            return -1;
        }
        worlds.add(new int[] {r, a, speed});
        return worlds.size() - 1;
    }

    int angle(int world, int d) {
        indexIs(world, worlds.size());
        need(in(d, 0, 3000));
        return worldAngle(world, d);
    }

    int worldAngle(int world, int d) {
        int[] w = worlds.get(world);
        return (w[1] + w[2] * d) % 72;
    }

    boolean met(int world, int d, int r, int a) {
        int away = Math.abs(a - worldAngle(world, d));
        away = Math.min(away, 72 - away);
        return Math.abs(r - worlds.get(world)[0]) <= 4 && away <= 2;
    }

    /** The first of the shortest ways: places stand by the first way to each, so the first that meets is due. */
    List<Integer> way(int world, int r0, int a0, int d0) {
        int s = strength();
        List<int[]> places = new ArrayList<>();
        List<List<Integer>> ways = new ArrayList<>();
        places.add(new int[] {r0, a0});
        ways.add(new ArrayList<>());
        for (int days = 0; days <= 40; days++) {
            for (int i = 0; i < places.size(); i++) {
                if (met(world, d0 + days, places.get(i)[0], places.get(i)[1])) {
                    return ways.get(i);
                }
            }
            boolean[] seen = new boolean[256 * 72];
            List<int[]> nextPlaces = new ArrayList<>();
            List<List<Integer>> nextWays = new ArrayList<>();
            for (int i = 0; i < places.size(); i++) {
                int r = places.get(i)[0];
                int a = (places.get(i)[1] + 1 + 320 / (r + 32)) % 72;
                int step = 1 + s * 32 / (r + 32);
                for (int steer = 0; steer <= 2; steer++) {
                    int r2 = steer == 0 ? r - step : steer == 2 ? r + step : r;
                    if (r2 >= 0 && r2 <= 255 && !seen[r2 * 72 + a]) {
                        seen[r2 * 72 + a] = true;
                        nextPlaces.add(new int[] {r2, a});
                        List<Integer> longer = new ArrayList<>(ways.get(i));
                        longer.add(steer);
                        nextWays.add(longer);
                    }
                }
            }
            places = nextPlaces;
            ways = nextWays;
        }
        return null;
    }

    int least(int world, int what) {
        indexIs(world, worlds.size());
        need(in(what, -1, 39));
        List<Integer> way = way(world, rho, angle, day);
        if (way == null) {
            return NONE;
        }
        return what == -1 ? way.size() : what < way.size() ? way.get(what) : NONE;
    }

    int lateBy(int world, int k) {
        int a = angle;
        for (int i = 0; i < k; i++) {
            a = (a + 1 + 320 / (rho + 32)) % 72;
        }
        List<Integer> way = way(world, rho, a, day + k);
        return way == null ? NONE : k + way.size();
    }

    int late(int world, int days) {
        indexIs(world, worlds.size());
        need(in(days, 0, 20));
        return lateBy(world, days);
    }

    int window(int world) {
        indexIs(world, worlds.size());
        int best = NONE;
        int bestK = NONE;
        for (int k = 20; k >= 0; k--) {
            int all = lateBy(world, k);
            if (all != NONE && (best == NONE || all <= best)) {
                best = all;
                bestK = k;
            }
        }
        return bestK;
    }

    int goal(int world) {
        if (world != NONE) {
            indexIs(world, worlds.size());
        }
        int was = goal;
        goal = world;
        return was;
    }

    // ---- rules

    final StringBuilder tape = new StringBuilder();
    List<Language.Rule> rules = new ArrayList<>();
    int faultPlace = NONE;

    int feed(int a, int b, int c, int d, int e) {
        if (tape.length() + 20 > 300) {
            return NONE;
        }
        for (int v : new int[] {a, b, c, d, e}) {
            tape.append((char) (v >>> 24)).append((char) (v >>> 16 & 255));
            tape.append((char) (v >>> 8 & 255)).append((char) (v & 255));
        }
        return tape.length();
    }

    int rules(int n) {
        need(in(n, 0, tape.length()));
        Language language = new Language(tape.substring(0, n));
        tape.setLength(0);
        faultPlace = NONE;
        try {
            rules = language.readAll();
        } catch (Language.Fault f) {
            faultPlace = f.place;
            return f.kind - 10;
        }
        return rules.size();
    }

    int fault() {
        return faultPlace;
    }

    Map<String, Integer> values() {
        Map<String, Integer> values = new HashMap<>();
        values.put("rho", rho);
        values.put("angle", angle);
        values.put("day", day);
        values.put("far", goal == NONE ? 0 : worlds.get(goal)[0] - rho);
        values.put("lead", goal == NONE ? 0 : ((worldAngle(goal, day) - angle) % 72 + 72) % 72);
        values.put("steps", steps(rho));
        values.put("torn", (int) panels.stream().filter(p -> p.torn).count());
        return values;
    }

    int asks() {
        Map<String, Integer> values = values();
        for (int i = 0; i < rules.size(); i++) {
            if (rules.get(i).holds.of(values) != 0) {
                return 10 * i + rules.get(i).steer;
            }
        }
        return -9;
    }

    // ---- flights

    final List<int[]> dusts = new ArrayList<>();
    final List<int[]> notes = new ArrayList<>();

    int dust(int panel, int d) {
        panelIs(panel);
        need(in(d, 0, 1999) && d >= day);
        if (dusts.size() == 20) {
            return -1;
        }
        dusts.add(new int[] {panel, d});
        return dusts.size();
    }

    void flyDay() {
        int ahead = strength();
        int told = asks();
        int steer = told == -9 ? 1 : told % 10;
        int step = steps(rho);
        int next = steer == 0 ? rho - step : steer == 2 ? rho + step : rho;
        if (next < 0 || next > 255) {
            steer = 1;
            next = rho;
        }
        angle = (angle + 1 + 320 / (rho + 32)) % 72;
        rho = next;
        for (int[] d : dusts) {
            if (d[1] == day) {
                panels.get(d[0]).torn = true;
            }
        }
        for (Sheet p : panels) {
            if (p.torn) {
                continue;
            }
            if (p.kept * 100 * 32 / (rho + 32) / 100 > 20) {
                p.warm++;
                if (p.warm == 5) {
                    p.warm = 0;
                    if (p.curl < 2) {
                        p.curl++;
                    }
                }
            } else {
                p.warm = 0;
            }
            if (day % 10 == 9 && p.back > 0) {
                p.back--;
                p.kept++;
            }
        }
        notes.add(new int[] {steer, rho, angle, ahead});
        day++;
    }

    int fly(int days) {
        need(in(days, 0, 200));
        if (day + days > 2000) {
            throw new IllegalStateException();
        }
        for (int i = 0; i < days; i++) {
            flyDay();
            if (goal != NONE && met(goal, day, rho, angle)) {
                return i + 1;
            }
        }
        return days;
    }

    int note(int d, int what) {
        need(in(what, 0, 3));
        return d < 0 || d >= day || d < day - 64 ? NONE : notes.get(d)[what];
    }

    // ---- coats

    final List<int[]> coats = new ArrayList<>();
    final List<int[]> sights = new ArrayList<>();

    int coat(int back, int kept) {
        need(coatIs(back, kept));
        if (coats.size() == 5) {
            return -1;
        }
        coats.add(new int[] {back, kept});
        return coats.size() - 1;
    }

    int sight(int slant, int x, int ends) {
        need(in(slant, -8, 8) && in(x, 0, 1_000_000) && in(ends, 0, 10_000));
        if (sights.size() == 6) {
            return -1;
        }
        sights.add(new int[] {slant, x, ends});
        return sights.size();
    }

    long coated(List<Integer> row, int slant) {
        long sum = 0;
        for (int i = 0; i < panels.size(); i++) {
            if (i < row.size()) {
                int[] c = coats.get(row.get(i));
                sum += forces(i, slant, c[0], c[1])[0];
            } else {
                sum += forces(i, slant)[0];
            }
        }
        return sum;
    }

    void gatherFits(List<Integer> row, int m, List<List<Integer>> all) {
        if (row.size() == m) {
            for (int[] s : sights) {
                if (Math.abs(coated(row, s[0]) - s[1]) > s[2]) {
                    return;
                }
            }
            all.add(new ArrayList<>(row));
            return;
        }
        for (int c = 0; c < coats.size(); c++) {
            row.add(c);
            gatherFits(row, m, all);
            row.remove(row.size() - 1);
        }
    }

    List<List<Integer>> allFits(int m) {
        need(in(m, 1, 4) && m <= panels.size());
        List<List<Integer>> all = new ArrayList<>();
        gatherFits(new ArrayList<>(), m, all);
        return all;
    }

    int fits(int m) {
        return allFits(m).size();
    }

    int fit(int m, int k) {
        List<List<Integer>> all = allFits(m);
        return all.isEmpty() || k < 0 || k >= m ? NONE : all.get(0).get(k);
    }

    int shows(int m) {
        List<List<Integer>> all = allFits(m);
        int best = -9;
        int most = 0;
        for (int slant = -8; slant <= 8; slant++) {
            Set<Long> unlike = new HashSet<>();
            for (List<Integer> row : all) {
                unlike.add(coated(row, slant));
            }
            if (unlike.size() > most) {
                most = unlike.size();
                best = slant;
            }
        }
        return best;
    }

    // ---- nets

    final List<int[]> knots = new ArrayList<>();
    final List<int[]> strings = new ArrayList<>();

    int knot(int x, int y, boolean held) {
        need(in(x, -5, 5) && in(y, -5, 5));
        if (knots.size() == 6) {
            return -1;
        }
        knots.add(new int[] {x, y, held ? 1 : 0, 0, 0});
        return knots.size() - 1;
    }

    void pull(int knot, int x, int y) {
        indexIs(knot, knots.size());
        need(in(x, -100, 100) && in(y, -100, 100));
        knots.get(knot)[3] = x;
        knots.get(knot)[4] = y;
    }

    int string(int knot, int other) {
        indexIs(knot, knots.size());
        indexIs(other, knots.size());
        need(knot != other);
        if (strings.size() == 6) {
            return -1;
        }
        int[] a = knots.get(knot);
        int[] b = knots.get(other);
        if (a[0] == b[0] && a[1] == b[1]) {
            return -2;
        }
        for (int[] s : strings) {
            if (s[0] == knot && s[1] == other || s[0] == other && s[1] == knot) {
                return -3;
            }
        }
        strings.add(new int[] {knot, other});
        return strings.size() - 1;
    }

    /** Rows of the balance: factors of all tensions, and what they must add up to. */
    Simplex balance() {
        List<long[]> rows = new ArrayList<>();
        for (int k = 0; k < knots.size(); k++) {
            int[] knot = knots.get(k);
            for (int axis = 0; knot[2] == 0 && axis < 2; axis++) {
                long[] row = new long[strings.size() + 1];
                for (int s = 0; s < strings.size(); s++) {
                    int[] string = strings.get(s);
                    if (string[0] == k || string[1] == k) {
                        int other = string[0] == k ? string[1] : string[0];
                        row[s] = knots.get(other)[axis] - knot[axis];
                    }
                }
                row[strings.size()] = -knot[3 + axis];
                rows.add(row);
            }
        }
        return new Simplex(rows, strings.size());
    }

    boolean hangs() {
        return balance().least(new long[strings.size()]) != null;
    }

    boolean slack(int string) {
        indexIs(string, strings.size());
        long[] goals = new long[strings.size()];
        goals[string] = 1;
        Simplex.Fraction least = balance().least(goals);
        return least != null && least.signum() == 0;
    }

    boolean taut(int string) {
        indexIs(string, strings.size());
        long[] goals = new long[strings.size()];
        goals[string] = -1;
        Simplex simplex = balance();
        Simplex.Fraction least = simplex.least(goals);
        return simplex.endless || least != null && least.signum() < 0;
    }

    long ease(int what) {
        need(in(what, 0, 1));
        long[] goals = new long[strings.size()];
        Arrays.fill(goals, 1);
        Simplex.Fraction least = balance().least(goals);
        if (least == null) {
            return NONE;
        }
        return (what == 0 ? least.above : least.below).longValueExact();
    }

    int cut() {
        int had = strings.size();
        knots.clear();
        strings.clear();
        return had;
    }

    // ---- offers

    final List<int[]> offers = new ArrayList<>();

    int offer(int x, int y, int gain, int cost) {
        need(in(x, -20, 20) && in(y, -20, 20) && in(gain, 0, 1000) && in(cost, 0, 100));
        if (offers.size() == 12) {
            return -1;
        }
        offers.add(new int[] {x, y, gain, cost});
        return offers.size() - 1;
    }

    int[] bestSheet;

    /** Sets with the earlier offers come first, so the first of equals stays. */
    void trySheets(int from, int[] sheet, int budget, int bound) {
        if (from == offers.size()) {
            boolean may = sheet[2] <= budget && Math.abs(sheet[3]) <= bound && Math.abs(sheet[4]) <= bound;
            if (may && (bestSheet == null || sheet[1] > bestSheet[1]
                    || sheet[1] == bestSheet[1] && sheet[2] < bestSheet[2])) {
                bestSheet = sheet;
            }
            return;
        }
        int[] o = offers.get(from);
        int[] with = {sheet[0] + (1 << from), sheet[1] + o[2], sheet[2] + o[3], sheet[3] + o[2] * o[0],
            sheet[4] + o[2] * o[1]};
        trySheets(from + 1, with, budget, bound);
        trySheets(from + 1, sheet, budget, bound);
    }

    int sheet(int budget, int bound, int what) {
        need(in(budget, 0, 1200) && in(bound, 0, 1_000_000) && in(what, 0, 4));
        bestSheet = null;
        trySheets(0, new int[5], budget, bound);
        return bestSheet[what];
    }

    int count(int what) {
        int openCount = 0;
        for (boolean open : openCreases) {
            openCount += open ? 1 : 0;
        }
        int[] all = {day, rho, angle, panels.size(), flaps.size(), worlds.size(), rules.size(), strength(), steps(rho),
            tape.length(), goal != NONE && met(goal, day, rho, angle) ? 1 : 0, coats.size(), sights.size(),
            dusts.size(), openCount, knots.size(), strings.size(), offers.size()};
        return what < 0 || what >= all.length ? NONE : all[what];
    }
}
