package support;

import java.util.ArrayDeque;
import java.util.ArrayList;
import java.util.Deque;
import java.util.List;
import java.util.TreeSet;

/**
 * The document once more, in the plainest way and by other means than the class: lists, sets, a
 * table of all ways, numbers of walks. The tests of random runs compare the class with it.
 */
public final class Model {
    private static final int BAD = -1, STATE = -2, NONE = -9;

    private static final class Net {
        int w = 4, h = 4, limit = 2, rule = 0, chance = 3;
        long seed = 1;
        final List<Integer> place = new ArrayList<>();
        final List<Boolean> present = new ArrayList<>();
        final List<List<Integer>> links = new ArrayList<>();

        Net copy() {
            Net c = new Net();
            c.w = w;
            c.h = h;
            c.limit = limit;
            c.rule = rule;
            c.chance = chance;
            c.seed = seed;
            c.place.addAll(place);
            c.present.addAll(present);
            for (List<Integer> list : links) {
                c.links.add(new ArrayList<>(list));
            }
            return c;
        }

        void fresh() {
            place.clear();
            present.clear();
            links.clear();
            for (int k = 0; k < w * h; k++) {
                place.add(k);
                present.add(true);
                links.add(new ArrayList<>());
            }
        }
    }

    private Net net = new Net();
    private final Deque<Net> history = new ArrayDeque<>();
    private final Net[] images = new Net[2];

    public Model() {
        net.fresh();
    }

    private int n() {
        return net.w * net.h;
    }

    private boolean no(int u) {
        return u < 0 || u >= n();
    }

    private boolean gone(int u) {
        return !net.present.get(u);
    }

    private void change() {
        history.addLast(net.copy());
        if (history.size() > 8) {
            history.removeFirst();
        }
    }

    private int dist(int u, int v) {
        int p = net.place.get(u), q = net.place.get(v);
        return Math.abs(p % net.w - q % net.w) + Math.abs(p / net.w - q / net.w);
    }

    private TreeSet<Integer> contacts(int u) {
        TreeSet<Integer> found = new TreeSet<>(net.links.get(u));
        for (int v = 0; v < n(); v++) {
            if (!gone(v) && dist(u, v) == 1) {
                found.add(v);
            }
        }
        return found;
    }

    private int draw(int below) {
        net.seed = (1103515245L * net.seed + 12345L) % 2147483648L;
        return (int) (net.seed / 65536 % below);
    }

    private void give(int u, int t) {
        List<Integer> mine = net.links.get(u);
        if (u == t || mine.contains(t)) {
            return;
        }
        if (mine.size() >= net.limit) {
            mine.remove(0);
        }
        mine.add(t);
    }

    private List<Integer> trail(int s, int t) {
        List<Integer> list = new ArrayList<>();
        list.add(s);
        int at = s;
        while (at != t) {
            int best = -1;
            for (int v : contacts(at)) {
                if (dist(v, t) < dist(at, t) && (best < 0 || dist(v, t) < dist(best, t))) {
                    best = v;
                }
            }
            if (best < 0) {
                return list;
            }
            list.add(best);
            at = best;
        }
        return list;
    }

    private static boolean arrives(List<Integer> trail, int t) {
        return trail.get(trail.size() - 1) == t;
    }

    private int lookUp(int s, int t) {
        List<Integer> trail = trail(s, t);
        if (!arrives(trail, t)) {
            return NONE;
        }
        int steps = trail.size() - 1;
        if (net.rule == 1) {
            give(s, t);
        } else if (net.rule == 2) {
            for (int u : trail) {
                if (u != t && draw(net.chance) == 0) {
                    give(u, t);
                }
            }
        } else if (net.rule == 3 && steps > 1) {
            give(trail.get(steps / 2), t);
        }
        return steps;
    }

    /** All ways, by Floyd and Warshall; -1 where there is none. */
    private int[][] ways() {
        int[][] d = new int[n()][n()];
        for (int u = 0; u < n(); u++) {
            for (int v = 0; v < n(); v++) {
                d[u][v] = u == v ? 0 : -1;
            }
            if (!gone(u)) {
                for (int v : contacts(u)) {
                    d[u][v] = 1;
                }
            }
        }
        for (int m = 0; m < n(); m++) {
            for (int u = 0; u < n(); u++) {
                for (int v = 0; v < n(); v++) {
                    if (d[u][m] >= 0 && d[m][v] >= 0 && (d[u][v] < 0 || d[u][m] + d[m][v] < d[u][v])) {
                        d[u][v] = d[u][m] + d[m][v];
                    }
                }
            }
        }
        return d;
    }

    public int begin(int columns, int rows) {
        if (columns < 1 || columns > 7 || rows < 1 || rows > 7) {
            return BAD;
        }
        change();
        int before = n();
        net.w = columns;
        net.h = rows;
        net.fresh();
        return before;
    }

    private int pairFault(int u, int v) {
        if (no(u) || no(v)) {
            return BAD;
        }
        return gone(u) || gone(v) ? STATE : 0;
    }

    public int link(int u, int t) {
        if (u == t || pairFault(u, t) != 0) {
            return u == t ? BAD : pairFault(u, t);
        }
        change();
        give(u, t);
        return net.links.get(u).size();
    }

    public int unlink(int u, int k) {
        if (no(u) || k < 0 || k >= net.links.get(u).size()) {
            return BAD;
        }
        change();
        return net.links.get(u).remove(k);
    }

    public int drawLink(int u, int exponent) {
        if (no(u) || exponent < 0 || exponent > 2) {
            return BAD;
        }
        if (gone(u)) {
            return STATE;
        }
        change();
        List<Integer> tickets = new ArrayList<>();
        for (int v = 0; v < n(); v++) {
            if (!gone(v) && v != u && dist(u, v) != 1 && !net.links.get(u).contains(v)) {
                int d = dist(u, v);
                int weight = exponent == 0 ? 1 : exponent == 1 ? 60 / d : 3600 / (d * d);
                for (int i = 0; i < weight; i++) {
                    tickets.add(v);
                }
            }
        }
        if (tickets.isEmpty()) {
            return NONE;
        }
        int drawn = tickets.get(draw(tickets.size()));
        give(u, drawn);
        return drawn;
    }

    public int seek(int s, int t) {
        if (pairFault(s, t) != 0) {
            return pairFault(s, t);
        }
        change();
        return lookUp(s, t);
    }

    public int seekSome(int count) {
        if (count < 1 || count > 20) {
            return BAD;
        }
        change();
        int reached = 0;
        for (int i = 0; i < count; i++) {
            int s = draw(n());
            int t = draw(n());
            if (!gone(s) && !gone(t) && lookUp(s, t) >= 0) {
                reached++;
            }
        }
        return reached;
    }

    private int linkLengths() {
        int sum = 0;
        for (int u = 0; u < n(); u++) {
            for (int t : net.links.get(u)) {
                sum += dist(u, t);
            }
        }
        return sum;
    }

    private int linkNumber() {
        int sum = 0;
        for (List<Integer> list : net.links) {
            sum += list.size();
        }
        return sum;
    }

    public int exchange(int u, int v) {
        if (u == v || pairFault(u, v) != 0) {
            return u == v ? BAD : pairFault(u, v);
        }
        change();
        int before = linkLengths();
        Net unchanged = net.copy();
        int p = net.place.get(u);
        net.place.set(u, net.place.get(v));
        net.place.set(v, p);
        if (linkLengths() > before) {
            net = unchanged;
            return 0;
        }
        return 1;
    }

    private int presentNumber() {
        int sum = 0;
        for (boolean b : net.present) {
            sum += b ? 1 : 0;
        }
        return sum;
    }

    public int leave(int u) {
        if (no(u)) {
            return BAD;
        }
        if (gone(u) || presentNumber() == 1) {
            return STATE;
        }
        change();
        int before = linkNumber();
        net.links.get(u).clear();
        for (List<Integer> list : net.links) {
            list.remove(Integer.valueOf(u));
        }
        net.present.set(u, false);
        return before - linkNumber();
    }

    public int enter(int u) {
        if (no(u)) {
            return BAD;
        }
        if (!gone(u)) {
            return STATE;
        }
        change();
        net.present.set(u, true);
        return contacts(u).size();
    }

    public int set(int what, int v) {
        int before;
        if (what == 0 && v >= 1 && v <= 3) {
            change();
            before = net.limit;
            net.limit = v;
        } else if (what == 1 && v >= 0 && v <= 3) {
            change();
            before = net.rule;
            net.rule = v;
        } else if (what == 2 && v >= 1 && v <= 9) {
            change();
            before = net.chance;
            net.chance = v;
        } else if (what == 3 && v >= 0) {
            change();
            before = (int) net.seed;
            net.seed = v;
        } else {
            before = BAD;
        }
        return before;
    }

    public int undo() {
        if (history.isEmpty()) {
            return STATE;
        }
        net = history.removeLast();
        return history.size();
    }

    public int told(int what) {
        long[] all = {n(), net.w, presentNumber(), linkNumber(), linkLengths(), net.limit, net.rule,
            net.chance, net.seed, history.size()};
        return what < 0 || what > 9 ? BAD : (int) all[what];
    }

    public int node(int u, int what) {
        if (no(u) || what < 0 || what > 6) {
            return BAD;
        }
        if (what < 2) {
            return what == 0 ? net.place.get(u) : gone(u) ? 0 : 1;
        }
        if (gone(u)) {
            return 0;
        }
        int to = 0, reached = 0, greatest = 0;
        int[][] d = ways();
        for (int v = 0; v < n(); v++) {
            to += net.links.get(v).contains(u) ? 1 : 0;
            reached += v != u && d[u][v] >= 0 ? 1 : 0;
            greatest = Math.max(greatest, d[u][v]);
        }
        int[] rest = {contacts(u).size(), net.links.get(u).size(), to, reached, greatest};
        return rest[what - 2];
    }

    public int target(int u, int k) {
        if (no(u) || k < 0) {
            return BAD;
        }
        return k < net.links.get(u).size() ? net.links.get(u).get(k) : NONE;
    }

    public int distance(int u, int v) {
        return no(u) || no(v) ? BAD : dist(u, v);
    }

    public int route(int s, int t, int k) {
        if (k < -2) {
            return BAD;
        }
        if (pairFault(s, t) != 0) {
            return pairFault(s, t);
        }
        List<Integer> trail = trail(s, t);
        if (k == -2) {
            return arrives(trail, t) ? 1 : 0;
        }
        if (k == -1) {
            return trail.size() - 1;
        }
        return k < trail.size() ? trail.get(k) : NONE;
    }

    public int way(int s, int t) {
        if (pairFault(s, t) != 0) {
            return pairFault(s, t);
        }
        int d = ways()[s][t];
        return d < 0 ? NONE : d;
    }

    /** A walk with the least number of steps is a path, so walks can be counted. */
    public long paths(int s, int t) {
        if (pairFault(s, t) != 0) {
            return pairFault(s, t);
        }
        int steps = ways()[s][t];
        if (steps < 0) {
            return 0;
        }
        long[] walks = new long[n()];
        walks[s] = 1;
        for (int i = 0; i < steps; i++) {
            long[] longer = new long[n()];
            for (int u = 0; u < n(); u++) {
                if (!gone(u)) {
                    for (int v : contacts(u)) {
                        longer[v] += walks[u];
                    }
                }
            }
            walks = longer;
        }
        return walks[t];
    }

    private int[] measures() {
        int[] m = new int[8];
        int[][] d = ways();
        for (int s = 0; s < n(); s++) {
            for (int t = 0; t < n(); t++) {
                if (s == t || gone(s) || gone(t)) {
                    continue;
                }
                m[0]++;
                if (d[s][t] >= 0) {
                    m[1]++;
                    m[2] = Math.max(m[2], d[s][t]);
                    m[3] += d[s][t];
                }
                List<Integer> trail = trail(s, t);
                int steps = trail.size() - 1;
                if (arrives(trail, t)) {
                    m[4]++;
                    m[5] = Math.max(m[5], steps);
                    m[6] += steps;
                    m[7] += steps == d[s][t] ? 1 : 0;
                }
            }
        }
        return m;
    }

    public int measure(int what) {
        return what < 0 || what > 7 ? BAD : measures()[what];
    }

    public float mean() {
        int[] m = measures();
        return m[4] == 0 ? 0.0f : (float) m[6] / (float) m[4];
    }

    public int keep(int i) {
        if (i < 0 || i > 1) {
            return BAD;
        }
        images[i] = net.copy();
        return linkNumber();
    }

    public int back(int i) {
        if (i < 0 || i > 1) {
            return BAD;
        }
        if (images[i] == null) {
            return STATE;
        }
        change();
        net = images[i].copy();
        return linkNumber();
    }
}
