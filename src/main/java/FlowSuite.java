/** Finds the greatest flows of a small network in seven ways, and much else about its cuts. */
public final class FlowSuite {
    public static final int BAD = -1;
    public static final int FULL = -2;

    private static final int POINTS = 8;
    private static final int ARCS = 20;
    private static final int MOST_ROOM = 99;
    private static final int MOST_VALUE = ARCS * MOST_ROOM;
    private static final int TOP_SCALE = 10; // 2 to the 11th is already above MOST_VALUE
    private static final int SIDES = 1 << POINTS;

    // A point that lets only so much through is two nodes: p, where its arcs come in,
    // and p + POINTS, where they go out.
    private static final int NODES = 2 * POINTS;
    private static final int PAIRS = NODES * NODES;
    private static final int NONE = -1;
    private static final int ENOUGH = 1_000_000; // far more steps than any engine takes

    private static final int DEEP = 0; // Ford and Fulkerson: any path
    private static final int BROAD = 1; // Edmonds and Karp: a path of the fewest arcs
    private static final int WIDE = 2; // a path that carries the most
    private static final int SCALED = 3; // paths that carry much before those that carry little
    private static final int LAYERED = 4; // Dinic: all paths of the fewest arcs at once
    private static final int IN_TURN = 5; // preflow push, the nodes taken in turn
    private static final int HIGHEST = 6; // preflow push, the highest node first

    private int present; // bit k for arc k
    private final int[] start = new int[ARCS];
    private final int[] end = new int[ARCS];
    private final int[] rooms = new int[ARCS];

    // How much more can go from node u to node v: left[u * NODES + v].
    private final int[] left = new int[PAIRS];

    private final int[] from = new int[NODES]; // the node before on a path, or NONE
    private final int[] line = new int[NODES];
    private final int[] level = new int[NODES];
    private final int[] width = new int[NODES];
    private final boolean[] done = new boolean[NODES];
    private final int[] height = new int[NODES];
    private final int[] excess = new int[NODES];

    // What studySides has found about the sides of the least size.
    private int leastSize;
    private int inEvery;
    private int inSome;
    private int cutByEvery;
    private int cutBySome;

    public FlowSuite() {
        present = 0;
    }

    public int add(int a, int b, int room) {
        if (!areEnds(a, b) || !isRoom(room)) {
            return BAD;
        }
        for (int k = 0; k < ARCS; k++) {
            if (!isArc(k)) {
                present |= 1 << k;
                start[k] = a;
                end[k] = b;
                rooms[k] = room;
                return k;
            }
        }
        return FULL;
    }

    public int remove(int k) {
        if (!isArc(k)) {
            return BAD;
        }
        present &= ~(1 << k);
        return rooms[k];
    }

    public int change(int k, int room) {
        if (!isArc(k) || !isRoom(room)) {
            return BAD;
        }
        int before = rooms[k];
        rooms[k] = room;
        return before;
    }

    public int arcs() {
        return present;
    }

    public int value(int engine, int s, int t) {
        if (!areEnds(s, t) || engine < DEEP || engine > HIGHEST) {
            return BAD;
        }
        layArcs(0, MOST_ROOM);
        switch (engine) {
            case SCALED:
                return flowByScales(s, t);
            case LAYERED:
                return flowByLayers(s, t);
            case IN_TURN:
            case HIGHEST:
                return flowByExcess(engine, s, t);
            default:
                return flowByPaths(engine, s, t);
        }
    }

    public boolean agree(int engine, int other, int s, int t) {
        int one = value(engine, s, t);
        int two = value(other, s, t);
        return one != BAD && one == two;
    }

    public int least(int s, int t) {
        if (!areEnds(s, t)) {
            return BAD;
        }
        studySides(s, t);
        return inEvery;
    }

    public int most(int s, int t) {
        if (!areEnds(s, t)) {
            return BAD;
        }
        studySides(s, t);
        return inSome;
    }

    public int tight(int s, int t) {
        if (!areEnds(s, t)) {
            return BAD;
        }
        studySides(s, t);
        return cutBySome;
    }

    public int widening(int s, int t) {
        if (!areEnds(s, t)) {
            return BAD;
        }
        // More room helps only if it makes every side of the least size greater.
        studySides(s, t);
        return cutByEvery;
    }

    public int apart(int s, int t) {
        if (!areEnds(s, t)) {
            return BAD;
        }
        layArcs(0, 1);
        return flowByPaths(BROAD, s, t);
    }

    public int separate(int s, int t) {
        if (!areEnds(s, t)) {
            return BAD;
        }
        layArcs(POINTS, 1);
        layPoints(1);
        return flowByPaths(BROAD, s + POINTS, t);
    }

    public int weakest() {
        // Every set but the empty one and the whole is a side for some s and t.
        int weak = MOST_VALUE;
        for (int side = 1; side < SIDES - 1; side++) {
            int cut = arcsCutBy(side);
            int size = roomOf(cut);
            if (size < weak) {
                weak = size;
            }
        }
        return weak;
    }

    public int throttled(int s, int t, int much) {
        if (!areEnds(s, t) || !isRoom(much)) {
            return BAD;
        }
        layArcs(POINTS, MOST_ROOM);
        layPoints(much);
        return flowByLayers(s + POINTS, t);
    }

    public int fewest(int s, int t) {
        if (!areEnds(s, t)) {
            return BAD;
        }
        int few = ARCS;
        for (int side = 0; side < SIDES; side++) {
            if (isSide(side, s, t)) {
                int cut = arcsCutBy(side);
                int count = openAmong(cut);
                if (count < few) {
                    few = count;
                }
            }
        }
        return few;
    }

    private boolean isPoint(int p) {
        return p >= 0 && p < POINTS;
    }

    private boolean areEnds(int a, int b) {
        return isPoint(a) && isPoint(b) && a != b;
    }

    private boolean isRoom(int room) {
        return room >= 0 && room <= MOST_ROOM;
    }

    private boolean isArc(int k) {
        return k >= 0 && k < ARCS && holds(present, k);
    }

    private boolean holds(int set, int member) {
        return (set >> member & 1) == 1;
    }

    // Sides and what they cut.

    private boolean isSide(int side, int s, int t) {
        return holds(side, s) && !holds(side, t);
    }

    private int arcsCutBy(int side) {
        int cut = 0;
        for (int k = 0; k < ARCS; k++) {
            if (holds(present, k) && isSide(side, start[k], end[k])) {
                cut |= 1 << k;
            }
        }
        return cut;
    }

    private int roomOf(int set) {
        int sum = 0;
        for (int k = 0; k < ARCS; k++) {
            if (holds(set, k)) {
                sum += rooms[k];
            }
        }
        return sum;
    }

    private int openAmong(int set) {
        int count = 0;
        for (int k = 0; k < ARCS; k++) {
            if (holds(set, k) && rooms[k] > 0) {
                count++;
            }
        }
        return count;
    }

    private void studySides(int s, int t) {
        leastSize = MOST_VALUE + 1;
        for (int side = 0; side < SIDES; side++) {
            if (isSide(side, s, t)) {
                studySide(side);
            }
        }
    }

    private void studySide(int side) {
        int cut = arcsCutBy(side);
        int size = roomOf(cut);
        if (size < leastSize) {
            leastSize = size;
            inEvery = side;
            inSome = side;
            cutByEvery = cut;
            cutBySome = cut;
        } else if (size == leastSize) {
            inEvery &= side;
            inSome |= side;
            cutByEvery &= cut;
            cutBySome |= cut;
        }
    }

    // The network that an engine works on.

    /** Lays the arcs, none with more room than most, out of the nodes that stand exit above their points. */
    private void layArcs(int exit, int most) {
        for (int i = 0; i < PAIRS; i++) {
            left[i] = 0;
        }
        for (int k = 0; k < ARCS; k++) {
            if (holds(present, k)) {
                left[(start[k] + exit) * NODES + end[k]] += lesser(rooms[k], most);
            }
        }
    }

    private void layPoints(int much) {
        for (int p = 0; p < POINTS; p++) {
            left[p * NODES + p + POINTS] = much;
        }
    }

    private int lesser(int a, int b) {
        return a < b ? a : b;
    }

    private void move(int u, int v, int amount) {
        left[u * NODES + v] -= amount;
        left[v * NODES + u] += amount;
    }

    // Engines 0 to 3: one path after the other.

    private int flowByPaths(int engine, int s, int t) {
        int value = 0;
        for (int round = 0; round <= MOST_VALUE; round++) {
            if (!findPath(engine, s, t)) {
                break;
            }
            value += fillPath(s, t);
        }
        return value;
    }

    private int flowByScales(int s, int t) {
        int value = 0;
        for (int scale = TOP_SCALE; scale >= 0; scale--) {
            for (int round = 0; round <= MOST_VALUE; round++) {
                if (!searchDeep(s, t, 1 << scale)) {
                    break;
                }
                value += fillPath(s, t);
            }
        }
        return value;
    }

    private boolean findPath(int engine, int s, int t) {
        switch (engine) {
            case BROAD:
                return searchBroad(s, t);
            case WIDE:
                return searchWide(s, t);
            default:
                return searchDeep(s, t, 1);
        }
    }

    private void forgetPaths(int s) {
        for (int v = 0; v < NODES; v++) {
            from[v] = NONE;
        }
        from[s] = s;
    }

    /** Looks for a path each step of which has at least floor left. */
    private boolean searchDeep(int s, int t, int floor) {
        forgetPaths(s);
        int u = s;
        // A step reaches a new node or goes back from one for good.
        for (int step = 0; step < 2 * NODES; step++) {
            int v = unseenAfter(u, floor);
            if (v != NONE) {
                from[v] = u;
                u = v;
            } else {
                u = from[u];
            }
            if (u == t) {
                return true;
            }
        }
        return false;
    }

    private int unseenAfter(int u, int floor) {
        for (int v = 0; v < NODES; v++) {
            if (from[v] == NONE && left[u * NODES + v] >= floor) {
                return v;
            }
        }
        return NONE;
    }

    /** Looks for a shortest path, and tells the level of every node that it reaches. */
    private boolean searchBroad(int s, int t) {
        forgetPaths(s);
        for (int v = 0; v < NODES; v++) {
            level[v] = NONE;
        }
        level[s] = 0;
        line[0] = s;
        int waiting = 1;
        for (int i = 0; i < waiting && i < NODES; i++) {
            int u = line[i];
            for (int v = 0; v < NODES; v++) {
                if (from[v] == NONE && left[u * NODES + v] > 0) {
                    from[v] = u;
                    level[v] = level[u] + 1;
                    line[waiting] = v;
                    waiting++;
                }
            }
        }
        return level[t] != NONE;
    }

    private boolean searchWide(int s, int t) {
        forgetPaths(s);
        for (int v = 0; v < NODES; v++) {
            width[v] = 0;
            done[v] = false;
        }
        width[s] = MOST_VALUE;
        for (int turn = 0; turn < NODES; turn++) {
            int u = widestToDo();
            if (u == NONE) {
                break;
            }
            done[u] = true;
            passWidth(u);
        }
        return width[t] > 0;
    }

    private int widestToDo() {
        int widest = NONE;
        int best = 0;
        for (int v = 0; v < NODES; v++) {
            if (!done[v] && width[v] > best) {
                widest = v;
                best = width[v];
            }
        }
        return widest;
    }

    private void passWidth(int u) {
        for (int v = 0; v < NODES; v++) {
            int next = left[u * NODES + v];
            // Not by lesser, whose call would be the seventh in the chain from agree.
            int through = next < width[u] ? next : width[u];
            if (through > width[v]) {
                width[v] = through;
                from[v] = u;
            }
        }
    }

    private int fillPath(int s, int t) {
        int amount = MOST_VALUE;
        int v = t;
        for (int i = 0; i < NODES && v != s; i++) {
            amount = lesser(amount, left[from[v] * NODES + v]);
            v = from[v];
        }
        v = t;
        for (int i = 0; i < NODES && v != s; i++) {
            move(from[v], v, amount);
            v = from[v];
        }
        return amount;
    }

    // Engine 4: whole layers.

    private int flowByLayers(int s, int t) {
        int value = 0;
        // Each round puts t on a higher level.
        for (int round = 0; round < NODES; round++) {
            if (!searchBroad(s, t)) {
                break;
            }
            value += fillLayers(s, t);
        }
        return value;
    }

    private int fillLayers(int s, int t) {
        int value = 0;
        int u = s;
        for (int step = 0; step < ENOUGH; step++) {
            int v = nextLayerAfter(u);
            if (v != NONE) {
                from[v] = u;
                u = v;
            } else if (u == s) {
                break;
            } else {
                level[u] = NONE; // so that no path comes to this dead end again
                u = from[u];
            }
            if (u == t) {
                value += fillPath(s, t);
                u = s;
            }
        }
        return value;
    }

    private int nextLayerAfter(int u) {
        for (int v = 0; v < NODES; v++) {
            if (level[v] == level[u] + 1 && left[u * NODES + v] > 0) {
                return v;
            }
        }
        return NONE;
    }

    // Engines 5 and 6: an excess that is pushed downhill until it is at t or back at s.

    private int flowByExcess(int engine, int s, int t) {
        flood(s);
        int u = s;
        for (int step = 0; step < ENOUGH; step++) {
            u = engine == HIGHEST ? highestActive(s, t) : nextActive(u, s, t);
            if (u == NONE) {
                break;
            }
            int v = downhillFrom(u);
            if (v == NONE) {
                lift(u);
            } else {
                int amount = lesser(excess[u], left[u * NODES + v]);
                push(u, v, amount);
            }
        }
        return excess[t];
    }

    private void flood(int s) {
        for (int v = 0; v < NODES; v++) {
            height[v] = 0;
            excess[v] = 0;
        }
        height[s] = NODES;
        for (int v = 0; v < NODES; v++) {
            push(s, v, left[s * NODES + v]);
        }
    }

    private void push(int u, int v, int amount) {
        move(u, v, amount);
        excess[u] -= amount;
        excess[v] += amount;
    }

    private boolean isActive(int v, int s, int t) {
        return v != s && v != t && excess[v] > 0;
    }

    private int nextActive(int u, int s, int t) {
        for (int i = 1; i <= NODES; i++) {
            int v = (u + i) % NODES;
            if (isActive(v, s, t)) {
                return v;
            }
        }
        return NONE;
    }

    private int highestActive(int s, int t) {
        int highest = NONE;
        int best = NONE;
        for (int v = 0; v < NODES; v++) {
            if (isActive(v, s, t) && height[v] > best) {
                highest = v;
                best = height[v];
            }
        }
        return highest;
    }

    private int downhillFrom(int u) {
        for (int v = 0; v < NODES; v++) {
            if (height[u] == height[v] + 1 && left[u * NODES + v] > 0) {
                return v;
            }
        }
        return NONE;
    }

    private void lift(int u) {
        int lowest = 2 * NODES; // above every node: what has an excess can always send it back
        for (int v = 0; v < NODES; v++) {
            if (left[u * NODES + v] > 0) {
                lowest = lesser(lowest, height[v]);
            }
        }
        height[u] = lowest + 1;
    }
}
