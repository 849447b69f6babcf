/**
 * A laboratory for small-world networks whose long links are rewired by the success of lookups.
 *
 * <p>The present network is one object that is changed in place; the states of the history and the
 * images are copies of it, in objects that are made once and written over again.
 */
public final class LinkRewirer {
    public static final int BAD = -1, STATE = -2, FULL = -3, NONE = -9;

    private static final int MOST_SIDE = 7;
    private static final int MOST_NODES = 49;
    private static final int MOST_LINKS = 3;
    private static final int MOST_PAST = 8;
    private static final int IMAGES = 2;
    private static final int MOST_LOOKUPS = 20;
    private static final int MOST_EXPONENT = 2;
    private static final int LAST_PROPERTY = 6;

    /** The settings, by the numbers that set() gives them. */
    private static final int LIMIT = 0, RULE = 1, CHANCE = 2, SEED = 3, SETTINGS = 4;

    /** The rules that do something after a lookup. */
    private static final int LINK_FIRST = 1, LINK_BY_CHANCE = 2, LINK_MIDDLE = 3;

    /** The measures, by the numbers that measure() gives them. */
    private static final int PAIRS = 0, PAIRS_WITH_PATH = 1, DIAMETER = 2, SUM_OF_WAYS = 3,
            REACHING = 4, MOST_STEPS = 5, SUM_OF_STEPS = 6, SHORTEST_REACHING = 7, MEASURES = 8;

    /** Stands for a way, a node or an index where there is none. */
    private static final int NOWHERE = -1;

    private final Network now = new Network();
    private final Survey survey = new Survey();
    private final Network[] past = new Network[MOST_PAST];
    private final Network[] images = new Network[IMAGES];
    private int pastCount = 0;

    public LinkRewirer() {
    }

    public int begin(int columns, int rows) {
        if (columns < 1 || columns > MOST_SIDE || rows < 1 || rows > MOST_SIDE) {
            return BAD;
        }
        record();
        int before = now.nodes();
        now.layOut(columns, rows);
        return before;
    }

    public int link(int u, int t) {
        int fault = faultOfOthers(u, t);
        if (fault != 0) {
            return fault;
        }
        record();
        now.giveLink(u, t);
        return now.linksOf(u);
    }

    public int unlink(int u, int k) {
        if (!now.holds(u) || k < 0 || k >= now.linksOf(u)) {
            return BAD;
        }
        record();
        int removed = now.linkAt(u, k);
        now.takeLink(u, k);
        return removed;
    }

    public int drawLink(int u, int exponent) {
        if (!now.holds(u) || exponent < 0 || exponent > MOST_EXPONENT) {
            return BAD;
        }
        if (!now.isPresent(u)) {
            return STATE;
        }
        record();
        int drawn = now.drawTarget(u, exponent);
        if (drawn != NONE) {
            now.giveLink(u, drawn);
        }
        return drawn;
    }

    public int seek(int s, int t) {
        int fault = faultOfPair(s, t);
        if (fault != 0) {
            return fault;
        }
        record();
        return lookUpAndRewire(s, t) ? survey.steps() : NONE;
    }

    public int seekSome(int n) {
        if (n < 1 || n > MOST_LOOKUPS) {
            return BAD;
        }
        record();
        int reached = 0;
        for (int i = 0; i < n; i++) {
            int s = now.draw(now.nodes());
            int t = now.draw(now.nodes());
            if (now.isPresent(s) && now.isPresent(t) && lookUpAndRewire(s, t)) {
                reached++;
            }
        }
        return reached;
    }

    public int exchange(int u, int v) {
        int fault = faultOfOthers(u, v);
        if (fault != 0) {
            return fault;
        }
        record();
        int before = now.lengthOfLinks();
        now.swapPlaces(u, v);
        if (now.lengthOfLinks() <= before) {
            return 1;
        }
        now.swapPlaces(u, v);
        return 0;
    }

    public int leave(int u) {
        if (!now.holds(u)) {
            return BAD;
        }
        if (!now.isPresent(u) || now.presentNodes() < 2) {
            return STATE;
        }
        record();
        return now.putAway(u);
    }

    public int enter(int u) {
        if (!now.holds(u)) {
            return BAD;
        }
        if (now.isPresent(u)) {
            return STATE;
        }
        record();
        now.putIn(u);
        return Long.bitCount(now.neighborsOf(u));
    }

    public int set(int what, int v) {
        if (!isSetting(what, v)) {
            return BAD;
        }
        record();
        int before = now.setting(what);
        now.changeSetting(what, v);
        return before;
    }

    public int undo() {
        if (pastCount < 1 || pastCount > past.length) {
            return STATE;
        }
        pastCount--;
        now.copyFrom(past[pastCount]);
        return pastCount;
    }

    public int told(int what) {
        switch (what) {
            case 0: return now.nodes();
            case 1: return now.width();
            case 2: return now.presentNodes();
            case 3: return now.countOfLinks();
            case 4: return now.lengthOfLinks();
            case 5: return now.setting(LIMIT);
            case 6: return now.setting(RULE);
            case 7: return now.setting(CHANCE);
            case 8: return now.setting(SEED);
            case 9: return pastCount;
            default: return BAD;
        }
    }

    public int node(int u, int what) {
        if (!now.holds(u) || what < 0 || what > LAST_PROPERTY) {
            return BAD;
        }
        if (what == 0) {
            return now.placeOf(u);
        }
        if (!now.isPresent(u)) {
            return 0;
        }
        switch (what) {
            case 1: return 1;
            case 2: return Long.bitCount(now.contactsOf(u));
            case 3: return now.linksOf(u);
            case 4: return now.linksTo(u);
            case 5: return survey.reachedFrom(now, u);
            default: return survey.greatestWayFrom(now, u);
        }
    }

    public int target(int u, int k) {
        if (!now.holds(u) || k < 0) {
            return BAD;
        }
        return k < now.linksOf(u) ? now.linkAt(u, k) : NONE;
    }

    public int distance(int u, int v) {
        if (!now.holds(u) || !now.holds(v)) {
            return BAD;
        }
        return now.spacing(u, v);
    }

    public int route(int s, int t, int k) {
        if (k < -2) {
            return BAD;
        }
        int fault = faultOfPair(s, t);
        if (fault != 0) {
            return fault;
        }
        boolean reached = survey.lookUp(now, s, t);
        if (k == -2) {
            return reached ? 1 : 0;
        }
        if (k == -1) {
            return survey.steps();
        }
        return k <= survey.steps() ? survey.trailAt(k) : NONE;
    }

    public int way(int s, int t) {
        int fault = faultOfPair(s, t);
        if (fault != 0) {
            return fault;
        }
        survey.readContacts(now);
        survey.findWaysTo(t);
        int steps = survey.wayFrom(s);
        return steps == NOWHERE ? NONE : steps;
    }

    public long paths(int s, int t) {
        int fault = faultOfPair(s, t);
        if (fault != 0) {
            return fault;
        }
        survey.readContacts(now);
        survey.findWaysTo(t);
        survey.countPaths();
        return survey.pathsFrom(s);
    }

    public int measure(int what) {
        if (what < 0 || what >= MEASURES) {
            return BAD;
        }
        survey.takeMeasures(now);
        return survey.measured(what);
    }

    public float mean() {
        survey.takeMeasures(now);
        int lookups = survey.measured(REACHING);
        if (lookups < 1) {
            return 0.0f;
        }
        return (float) survey.measured(SUM_OF_STEPS) / (float) lookups;
    }

    public int keep(int i) {
        if (i < 0 || i >= images.length) {
            return BAD;
        }
        storeNow(images, i);
        return now.countOfLinks();
    }

    public int back(int i) {
        if (i < 0 || i >= images.length) {
            return BAD;
        }
        Network image = images[i];
        if (image == null) {
            return STATE;
        }
        record();
        now.copyFrom(image);
        return now.countOfLinks();
    }

    /** Puts the present network into the history, before a change. */
    private void record() {
        if (pastCount >= past.length) {
            dropOldest();
        }
        storeNow(past, pastCount);
        pastCount++;
    }

    /** The dropped state's object goes to the end, so that the next state is written into it. */
    private void dropOldest() {
        for (int i = 1; i < past.length; i++) {
            Network older = past[i - 1];
            past[i - 1] = past[i];
            past[i] = older;
        }
        pastCount = past.length - 1;
    }

    private void storeNow(Network[] shelf, int i) {
        if (i < 0 || i >= shelf.length) {
            return;
        }
        Network copy = shelf[i];
        if (copy == null) {
            copy = new Network();
            shelf[i] = copy;
        }
        copy.copyFrom(now);
    }

    /** The error code for two nodes that must exist and be present, or 0. */
    private int faultOfPair(int u, int v) {
        if (!now.holds(u) || !now.holds(v)) {
            return BAD;
        }
        return now.isPresent(u) && now.isPresent(v) ? 0 : STATE;
    }

    /** The same for two nodes that must also differ. */
    private int faultOfOthers(int u, int v) {
        return u == v ? BAD : faultOfPair(u, v);
    }

    private static boolean isSetting(int what, int v) {
        switch (what) {
            case LIMIT: return v >= 1 && v <= MOST_LINKS;
            case RULE: return v >= 0 && v <= LINK_MIDDLE;
            case CHANCE: return v >= 1 && v <= 9;
            case SEED: return v >= 0;
            default: return false;
        }
    }

    /** Leaves the route in the survey and answers whether it reaches t. */
    private boolean lookUpAndRewire(int s, int t) {
        if (!survey.lookUp(now, s, t)) {
            return false;
        }
        for (int i = 0; i < survey.steps(); i++) {
            if (isRewired(i)) {
                now.giveLink(survey.trailAt(i), t);
            }
        }
        return true;
    }

    /** Whether the rule gives a link to the node i of the route, which is not the route's last. */
    private boolean isRewired(int i) {
        switch (now.setting(RULE)) {
            case LINK_FIRST: return i == 0;
            case LINK_BY_CHANCE: return now.draw(now.setting(CHANCE)) == 0;
            case LINK_MIDDLE: return survey.steps() > 1 && i == survey.steps() / 2;
            default: return false;
        }
    }

    /** The element, or 0 where the row has none. */
    private static int valueAt(int[] row, int i) {
        return i >= 0 && i < row.length ? row[i] : 0;
    }

    /** Does nothing where the row has no such element. */
    private static void putAt(int[] row, int i, int value) {
        if (i >= 0 && i < row.length) {
            row[i] = value;
        }
    }

    private static void copyRow(int[] from, int[] to) {
        for (int i = 0; i < from.length && i < to.length; i++) {
            to[i] = from[i];
        }
    }

    /** Sets of nodes are the bits of a long: there are fewer nodes than bits. */
    private static long only(int u) {
        return 1L << u;
    }

    private static boolean isIn(long nodes, int u) {
        return (nodes >> u & 1L) != 0L;
    }

    /** The grid, the places and long links of the nodes, and the settings. */
    private static final class Network {
        private int columns;
        private int rows;
        private long present;
        private final int[] columnOf = new int[MOST_NODES];
        private final int[] rowOf = new int[MOST_NODES];
        private final int[] nodeAt = new int[MOST_NODES];
        private final int[] linkCount = new int[MOST_NODES];
        private final int[] links = new int[MOST_NODES * MOST_LINKS];
        private final int[] settings = new int[SETTINGS];

        Network() {
            layOut(4, 4);
            changeSetting(LIMIT, 2);
            changeSetting(RULE, 0);
            changeSetting(CHANCE, 3);
            changeSetting(SEED, 1);
        }

        /** All nodes at their first places, without long links; the settings stay. */
        void layOut(int newColumns, int newRows) {
            columns = newColumns;
            rows = newRows;
            present = only(nodes()) - 1L;
            for (int r = 0; r < rows; r++) {
                for (int c = 0; c < columns; c++) {
                    settle(r * columns + c, c, r);
                }
            }
            for (int u = 0; u < linkCount.length; u++) {
                linkCount[u] = 0;
            }
        }

        private void settle(int u, int column, int row) {
            putAt(columnOf, u, column);
            putAt(rowOf, u, row);
            putAt(nodeAt, row * columns + column, u);
        }

        void copyFrom(Network other) {
            if (other == null) {
                return;
            }
            columns = other.columns;
            rows = other.rows;
            present = other.present;
            copyRow(other.columnOf, columnOf);
            copyRow(other.rowOf, rowOf);
            copyRow(other.nodeAt, nodeAt);
            copyRow(other.linkCount, linkCount);
            copyRow(other.links, links);
            copyRow(other.settings, settings);
        }

        int nodes() {
            return columns * rows;
        }

        int width() {
            return columns;
        }

        boolean holds(int u) {
            return u >= 0 && u < nodes();
        }

        boolean isPresent(int u) {
            return holds(u) && isIn(present, u);
        }

        int presentNodes() {
            return Long.bitCount(present);
        }

        int setting(int what) {
            return valueAt(settings, what);
        }

        void changeSetting(int what, int v) {
            putAt(settings, what, v);
        }

        /** Draws a number below n. */
        int draw(int n) {
            long seed = (1103515245L * setting(SEED) + 12345L) % 2147483648L;
            changeSetting(SEED, (int) seed);
            return n < 1 ? 0 : (int) (seed / 65536L % n);
        }

        int placeOf(int u) {
            return valueAt(rowOf, u) * columns + valueAt(columnOf, u);
        }

        int spacing(int u, int v) {
            return Math.abs(valueAt(columnOf, u) - valueAt(columnOf, v))
                    + Math.abs(valueAt(rowOf, u) - valueAt(rowOf, v));
        }

        void swapPlaces(int u, int v) {
            int column = valueAt(columnOf, u);
            int row = valueAt(rowOf, u);
            settle(u, valueAt(columnOf, v), valueAt(rowOf, v));
            settle(v, column, row);
        }

        int linksOf(int u) {
            return valueAt(linkCount, u);
        }

        /** The target of the long link k of u; both must exist. */
        int linkAt(int u, int k) {
            return valueAt(links, u * MOST_LINKS + k);
        }

        private int linkIndex(int u, int t) {
            for (int k = 0; k < linksOf(u); k++) {
                if (linkAt(u, k) == t) {
                    return k;
                }
            }
            return NOWHERE;
        }

        void giveLink(int u, int t) {
            if (u == t || linkIndex(u, t) != NOWHERE) {
                return;
            }
            if (linksOf(u) >= setting(LIMIT)) {
                takeLink(u, 0);
            }
            putAt(links, u * MOST_LINKS + linksOf(u), t);
            putAt(linkCount, u, linksOf(u) + 1);
        }

        /** Removes the long link k of u, which must exist. */
        void takeLink(int u, int k) {
            for (int i = k + 1; i < linksOf(u); i++) {
                putAt(links, u * MOST_LINKS + i - 1, linkAt(u, i));
            }
            putAt(linkCount, u, linksOf(u) - 1);
        }

        int linksTo(int t) {
            int found = 0;
            for (int u = 0; u < nodes(); u++) {
                if (linkIndex(u, t) != NOWHERE) {
                    found++;
                }
            }
            return found;
        }

        int countOfLinks() {
            int sum = 0;
            for (int u = 0; u < nodes(); u++) {
                sum += linksOf(u);
            }
            return sum;
        }

        int lengthOfLinks() {
            int sum = 0;
            for (int u = 0; u < nodes(); u++) {
                for (int k = 0; k < linksOf(u); k++) {
                    sum += spacing(u, linkAt(u, k));
                }
            }
            return sum;
        }

        /** Makes u absent and answers how many long links that removes. */
        int putAway(int u) {
            int removed = linksOf(u);
            putAt(linkCount, u, 0);
            for (int v = 0; v < nodes(); v++) {
                int k = linkIndex(v, u);
                if (k != NOWHERE) {
                    takeLink(v, k);
                    removed++;
                }
            }
            present &= ~only(u);
            return removed;
        }

        void putIn(int u) {
            present |= only(u);
        }

        /** The present neighbors of u. */
        long neighborsOf(int u) {
            int column = valueAt(columnOf, u);
            int row = valueAt(rowOf, u);
            return present & (standingAt(column - 1, row) | standingAt(column + 1, row)
                    | standingAt(column, row - 1) | standingAt(column, row + 1));
        }

        /** The node whose place this is, present or not; nothing outside the grid. */
        private long standingAt(int column, int row) {
            if (column < 0 || column >= columns || row < 0 || row >= rows) {
                return 0L;
            }
            int place = row * columns + column;
            return place >= 0 && place < nodeAt.length ? 1L << nodeAt[place] : 0L;
        }

        long contactsOf(int u) {
            long found = neighborsOf(u);
            for (int k = 0; k < linksOf(u); k++) {
                found |= only(linkAt(u, k));
            }
            return found;
        }

        /** Draws by the weights a node to which u may get a long link. */
        int drawTarget(int u, int exponent) {
            long possible = present & ~contactsOf(u) & ~only(u);
            int sum = 0;
            for (int v = 0; v < nodes(); v++) {
                sum += isIn(possible, v) ? weight(spacing(u, v), exponent) : 0;
            }
            if (sum < 1) {
                return NONE;
            }
            int number = draw(sum);
            int sumSoFar = 0;
            for (int v = 0; v < nodes(); v++) {
                sumSoFar += isIn(possible, v) ? weight(spacing(u, v), exponent) : 0;
                if (sumSoFar > number) {
                    return v;
                }
            }
            return NONE;
        }

        private static int weight(int d, int exponent) {
            if (d < 1 || d > 2 * MOST_SIDE) {
                return 0;
            }
            switch (exponent) {
                case 1: return 60 / d;
                case 2: return 3600 / (d * d);
                default: return 1;
            }
        }
    }

    /** Finds ways and routes in a network, for one end at a time and all beginnings. */
    private static final class Survey {
        private final long[] contacts = new long[MOST_NODES];
        private final int[] ways = new int[MOST_NODES];
        private final long[] pathCounts = new long[MOST_NODES];
        private final int[] nextNode = new int[MOST_NODES];
        private final int[] trail = new int[MOST_NODES];
        private final int[] measures = new int[MEASURES];
        private int trailLength = 0;

        Survey() {
        }

        /** To be called first, and again after every change of the network. */
        void readContacts(Network network) {
            for (int u = 0; u < contacts.length; u++) {
                contacts[u] = network.isPresent(u) ? network.contactsOf(u) : 0L;
            }
        }

        /** Finds for all nodes the way to t. */
        void findWaysTo(int t) {
            for (int u = 0; u < ways.length; u++) {
                ways[u] = u == t ? 0 : NOWHERE;
            }
            long layer = only(t);
            for (int step = 1; step < MOST_NODES && layer != 0L; step++) {
                layer = layerBefore(layer, step);
            }
        }

        /** The nodes without a way as yet that have a contact in the layer: their way is step. */
        private long layerBefore(long layer, int step) {
            long found = 0L;
            for (int u = 0; u < ways.length && u < contacts.length; u++) {
                if (ways[u] == NOWHERE && (contacts[u] & layer) != 0L) {
                    ways[u] = step;
                    found |= only(u);
                }
            }
            return found;
        }

        /** The way to the end for which ways were found last, or NOWHERE. */
        int wayFrom(int s) {
            return s >= 0 && s < ways.length ? ways[s] : NOWHERE;
        }

        /** Counts for all nodes the shortest paths to the end for which ways were found last. */
        void countPaths() {
            for (int step = 0; step < MOST_NODES; step++) {
                for (int u = 0; u < ways.length && u < pathCounts.length; u++) {
                    if (ways[u] == step) {
                        pathCounts[u] = step == 0 ? 1L : pathsOverContacts(u, step - 1);
                    }
                }
            }
        }

        /** The shortest paths of those contacts of u whose way is the given one. */
        private long pathsOverContacts(int u, int way) {
            if (u < 0 || u >= contacts.length) {
                return 0L;
            }
            long sum = 0L;
            for (int v = 0; v < ways.length && v < pathCounts.length; v++) {
                if (ways[v] == way && isIn(contacts[u], v)) {
                    sum += pathCounts[v];
                }
            }
            return sum;
        }

        long pathsFrom(int s) {
            boolean found = wayFrom(s) != NOWHERE;
            return found && s >= 0 && s < pathCounts.length ? pathCounts[s] : 0L;
        }

        int reachedFrom(Network network, int s) {
            readContacts(network);
            int reached = 0;
            for (int t = 0; t < network.nodes(); t++) {
                if (t != s && network.isPresent(t)) {
                    findWaysTo(t);
                    reached += wayFrom(s) == NOWHERE ? 0 : 1;
                }
            }
            return reached;
        }

        int greatestWayFrom(Network network, int s) {
            readContacts(network);
            int greatest = 0;
            for (int t = 0; t < network.nodes(); t++) {
                if (network.isPresent(t)) {
                    findWaysTo(t);
                    greatest = Math.max(greatest, wayFrom(s));
                }
            }
            return greatest;
        }

        /** Makes the route from s to t and answers whether it gets there. */
        boolean lookUp(Network network, int s, int t) {
            readContacts(network);
            aimAt(network, t);
            return follow(s, t);
        }

        /** Finds for all nodes where a lookup of t goes from there. */
        private void aimAt(Network network, int t) {
            for (int u = 0; u < nextNode.length; u++) {
                nextNode[u] = closest(network, u, t);
            }
        }

        /** The first of the contacts of u that are closest to t, if they are closer than u. */
        private int closest(Network network, int u, int t) {
            if (u < 0 || u >= contacts.length) {
                return NOWHERE;
            }
            long open = contacts[u];
            int found = NOWHERE;
            int least = network.spacing(u, t);
            for (int v = 0; v < MOST_NODES; v++) {
                if (isIn(open, v) && network.spacing(v, t) < least) {
                    least = network.spacing(v, t);
                    found = v;
                }
            }
            return found;
        }

        /** Makes the route from s to t, at which it was aimed last. */
        private boolean follow(int s, int t) {
            int u = s;
            trailLength = 0;
            while (trailLength < trail.length && u >= 0 && u < nextNode.length) {
                trail[trailLength] = u;
                trailLength++;
                if (u == t) {
                    return true;
                }
                u = nextNode[u];
            }
            return false;
        }

        int steps() {
            return trailLength - 1;
        }

        int trailAt(int i) {
            return valueAt(trail, i);
        }

        /** Takes all measures at once. */
        void takeMeasures(Network network) {
            readContacts(network);
            for (int what = 0; what < measures.length; what++) {
                measures[what] = 0;
            }
            for (int t = 0; t < network.nodes(); t++) {
                if (network.isPresent(t)) {
                    findWaysTo(t);
                    aimAt(network, t);
                    addPairsWithEnd(network, t);
                }
            }
        }

        private void addPairsWithEnd(Network network, int t) {
            for (int s = 0; s < network.nodes(); s++) {
                if (s != t && network.isPresent(s)) {
                    addPair(s, t);
                }
            }
        }

        private void addPair(int s, int t) {
            int way = wayFrom(s);
            add(PAIRS, 1);
            if (way != NOWHERE) {
                add(PAIRS_WITH_PATH, 1);
                raise(DIAMETER, way);
                add(SUM_OF_WAYS, way);
            }
            if (follow(s, t)) {
                add(REACHING, 1);
                raise(MOST_STEPS, steps());
                add(SUM_OF_STEPS, steps());
                add(SHORTEST_REACHING, steps() == way ? 1 : 0);
            }
        }

        private void add(int what, int n) {
            putAt(measures, what, measured(what) + n);
        }

        private void raise(int what, int n) {
            putAt(measures, what, Math.max(measured(what), n));
        }

        int measured(int what) {
            return valueAt(measures, what);
        }
    }
}
