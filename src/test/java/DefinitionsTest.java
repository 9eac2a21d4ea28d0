import java.util.Arrays;
import java.util.Random;

/**
 * Runs of calls on pseudo-random networks, each answer held against what the document's words give when they are
 * worked out in another way than the program does it: the cuts from flows, the flows from cuts, the ways by trying.
 */
public final class DefinitionsTest {
    private static final int NETS = 400;

    private static int wrong = 0;
    private static int net = 0;

    // The network as the document tells it; room -1 where there is no arc.
    private static final int[] a = new int[20];
    private static final int[] b = new int[20];
    private static final int[] room = new int[20];

    private static void due(String call, int got, int want) {
        if (got != want) {
            wrong++;
            if (wrong <= 50) {
                System.out.println("net " + net + ": " + call + " answered " + got + ", due is " + want);
            }
        }
    }

    private static int arcMask() {
        int mask = 0;
        for (int k = 0; k < 20; k++) {
            mask |= room[k] >= 0 ? 1 << k : 0;
        }
        return mask;
    }

    // The state, told by calls good and bad.

    private static int anyOf(Random random, int from, int to) {
        int[] odd = {Integer.MIN_VALUE, Integer.MAX_VALUE, from - 1, to + 1};
        return random.nextInt(25) == 0 ? odd[random.nextInt(4)] : from + random.nextInt(to - from + 1);
    }

    private static void anyAdd(FlowSuite x, Random random, int points, int most) {
        int from = anyOf(random, 0, points - 1);
        int to = anyOf(random, 0, points - 1);
        int size = anyOf(random, 0, most);
        boolean good = from >= 0 && from < 8 && to >= 0 && to < 8 && from != to && size >= 0 && size < 100;
        int free = 0;
        while (free < 20 && room[free] >= 0) {
            free++;
        }
        due("add(" + from + ", " + to + ", " + size + ")", x.add(from, to, size), !good ? -1 : free < 20 ? free : -2);
        if (good && free < 20) {
            a[free] = from;
            b[free] = to;
            room[free] = size;
        }
    }

    private static void anyRemove(FlowSuite x, Random random) {
        int k = anyOf(random, 0, 19);
        boolean good = k >= 0 && k < 20 && room[k] >= 0;
        due("remove(" + k + ")", x.remove(k), good ? room[k] : -1);
        if (good) {
            room[k] = -1;
        }
    }

    private static void anyChange(FlowSuite x, Random random, int most) {
        int k = anyOf(random, 0, 19);
        int size = anyOf(random, 0, most);
        boolean good = k >= 0 && k < 20 && room[k] >= 0 && size >= 0 && size < 100;
        due("change(" + k + ", " + size + ")", x.change(k, size), good ? room[k] : -1);
        if (good) {
            room[k] = size;
        }
    }

    // What is due.

    private static int sizeOf(int side) {
        int size = 0;
        for (int k = 0; k < 20; k++) {
            if (room[k] > 0 && (side >> a[k] & 1) == 1 && (side >> b[k] & 1) == 0) {
                size += room[k];
            }
        }
        return size;
    }

    private static int leastCut(int s, int t) {
        int least = Integer.MAX_VALUE;
        for (int side = 0; side < 256; side++) {
            if ((side >> s & 1) == 1 && (side >> t & 1) == 0) {
                least = Math.min(least, sizeOf(side));
            }
        }
        return least;
    }

    /** The points that s reaches, or that reach t, along what a greatest flow leaves. */
    private static int closure(int[] flow, int root, boolean forward) {
        int reached = 1 << root;
        for (int round = 0; round < 8; round++) {
            for (int k = 0; k < 20; k++) {
                int tail = forward ? a[k] : b[k];
                int head = forward ? b[k] : a[k];
                if (room[k] > flow[k] && (reached >> tail & 1) == 1) {
                    reached |= 1 << head;
                }
                if (room[k] >= 0 && flow[k] > 0 && (reached >> head & 1) == 1) {
                    reached |= 1 << tail;
                }
            }
        }
        return reached;
    }

    private static int pathArc(int[] flow, int p, int seen) {
        for (int k = 0; k < 20; k++) {
            if (room[k] > flow[k] && a[k] == p && (seen >> b[k] & 1) == 0) {
                return k;
            }
            if (room[k] >= 0 && flow[k] > 0 && b[k] == p && (seen >> a[k] & 1) == 0) {
                return k + 20;
            }
        }
        return -1;
    }

    /** One unit more from p to t, if that is possible. */
    private static boolean sendOne(int[] flow, int[] seen, int p, int t) {
        if (p == t) {
            return true;
        }
        seen[0] |= 1 << p;
        for (int k = pathArc(flow, p, seen[0]); k >= 0; k = pathArc(flow, p, seen[0])) {
            int next = k < 20 ? b[k] : a[k - 20];
            if (sendOne(flow, seen, next, t)) {
                flow[k % 20] += k < 20 ? 1 : -1;
                return true;
            }
        }
        return false;
    }

    private static int[] flowOf(int s, int t) {
        int[] flow = new int[20];
        while (sendOne(flow, new int[1], s, t)) {
            continue;
        }
        return flow;
    }

    /** An arc is cut by a side of the least size if it costs nothing to hold its ends there. */
    private static int tightArcs(int[] flow, int s, int t) {
        int tight = 0;
        int fromS = closure(flow, s, true);
        for (int k = 0; k < 20; k++) {
            if (room[k] >= 0) {
                int held = fromS | closure(flow, a[k], true);
                if ((held >> b[k] & 1) == 0 && (held >> t & 1) == 0) {
                    tight |= 1 << k;
                }
            }
        }
        return tight;
    }

    private static int wideningArcs(int s, int t) {
        int before = leastCut(s, t);
        int arcs = 0;
        for (int k = 0; k < 20; k++) {
            if (room[k] >= 0) {
                room[k]++;
                arcs |= leastCut(s, t) > before ? 1 << k : 0;
                room[k]--;
            }
        }
        return arcs;
    }

    /** The most ways from s to t that have no arc and, if points is told, no point between in common; by trying. */
    private static int tryWays(int p, int s, int t, int usedArcs, int usedPoints, boolean points) {
        int best = 0;
        for (int k = 0; k < 20; k++) {
            if (room[k] <= 0 || a[k] != p || (usedArcs >> k & 1) == 1 || b[k] == s) {
                continue;
            }
            int arcs = usedArcs | 1 << k;
            if (b[k] == t) {
                best = Math.max(best, 1 + tryWays(s, s, t, arcs, usedPoints, points));
            } else if (!points || (usedPoints >> b[k] & 1) == 0) {
                best = Math.max(best, tryWays(b[k], s, t, arcs, usedPoints | 1 << b[k], points));
            }
        }
        return best;
    }

    /** The least number of arcs without which t is not reached, by trying all sets of arcs. */
    private static int tryTakingOut(int s, int t) {
        int all = arcMask();
        int best = 20;
        for (int out = all;; out = (out - 1) & all) {
            if (Integer.bitCount(out) < best && !reaches(s, t, all & ~out)) {
                best = Integer.bitCount(out);
            }
            if (out == 0) {
                return best;
            }
        }
    }

    private static boolean reaches(int s, int t, int arcs) {
        int reached = 1 << s;
        for (int round = 0; round < 8; round++) {
            for (int k = 0; k < 20; k++) {
                if ((arcs >> k & 1) == 1 && room[k] > 0 && (reached >> a[k] & 1) == 1) {
                    reached |= 1 << b[k];
                }
            }
        }
        return (reached >> t & 1) == 1;
    }

    /** The least cut, where a point between costs so much to be cut through; came and went are the two halves. */
    private static int throttledCut(int s, int t, int much) {
        int least = Integer.MAX_VALUE;
        int free = 255 & ~(1 << s) & ~(1 << t);
        for (int came = free;; came = (came - 1) & free) {
            for (int went = came;; went = (went - 1) & came) {
                int size = much * Integer.bitCount(came & ~went);
                for (int k = 0; k < 20; k++) {
                    boolean out = a[k] == s || (went >> a[k] & 1) == 1;
                    boolean in = b[k] == s || (came >> b[k] & 1) == 1;
                    size += room[k] > 0 && out && !in ? room[k] : 0;
                }
                least = Math.min(least, size);
                if (went == 0) {
                    break;
                }
            }
            if (came == 0) {
                return least;
            }
        }
    }

    private static int weakestPair() {
        int weak = Integer.MAX_VALUE;
        for (int s = 0; s < 8; s++) {
            for (int t = 0; t < 8; t++) {
                weak = s == t ? weak : Math.min(weak, leastCut(s, t));
            }
        }
        return weak;
    }

    private static void askCuts(FlowSuite x, int s, int t) {
        String ends = "(" + s + ", " + t + ")";
        int value = leastCut(s, t);
        for (int engine = 0; engine < 7; engine++) {
            due("value of engine " + engine + " " + ends, x.value(engine, s, t), value);
            due("agree " + ends, x.agree(engine, (engine + s + t) % 7, s, t) ? 1 : 0, 1);
        }
        int[] flow = flowOf(s, t);
        due("least" + ends, x.least(s, t), closure(flow, s, true));
        due("most" + ends, x.most(s, t), 255 & ~closure(flow, t, false));
        due("tight" + ends, x.tight(s, t), tightArcs(flow, s, t));
        due("widening" + ends, x.widening(s, t), wideningArcs(s, t));
    }

    private static void askWays(FlowSuite x, int s, int t) {
        String ends = "(" + s + ", " + t + ")";
        due("apart" + ends, x.apart(s, t), tryWays(s, s, t, 0, 0, false));
        due("separate" + ends, x.separate(s, t), tryWays(s, s, t, 0, 0, true));
        due("fewest" + ends, x.fewest(s, t), tryTakingOut(s, t));
    }

    private static void askAll(FlowSuite x, Random random) {
        due("arcs()", x.arcs(), arcMask());
        due("weakest()", x.weakest(), weakestPair());
        for (int i = 0; i < 6; i++) {
            int s = random.nextInt(8);
            int t = (s + 1 + random.nextInt(7)) % 8;
            askCuts(x, s, t);
            int much = random.nextInt(random.nextBoolean() ? 5 : 100);
            due("throttled(" + s + ", " + t + ", " + much + ")", x.throttled(s, t, much), throttledCut(s, t, much));
            if (Integer.bitCount(arcMask()) <= 9) {
                askWays(x, s, t);
            }
        }
    }

    /** A ring through all points, so that every one reaches every other one, and weakest is not always 0. */
    private static void addRing(FlowSuite x, Random random, int most) {
        for (int p = 0; p < 8; p++) {
            a[p] = p;
            b[p] = (p + 3) % 8;
            room[p] = random.nextInt(most + 1);
            due("add to the ring", x.add(a[p], b[p], room[p]), p);
        }
    }

    public static void main(String[] args) {
        Random random = new Random(20261115);
        for (net = 1; net <= NETS; net++) {
            FlowSuite x = new FlowSuite();
            Arrays.fill(room, -1);
            int points = 3 + random.nextInt(6);
            int[] mosts = {1, 3, 20, 99};
            int most = mosts[random.nextInt(4)];
            if (net % 3 == 0) {
                addRing(x, random, most);
            }
            int adds = random.nextInt(24);
            for (int i = 0; i < adds; i++) {
                anyAdd(x, random, points, most);
            }
            for (int round = 0; round < 3; round++) {
                askAll(x, random);
                for (int i = random.nextInt(6); i > 0; i--) {
                    anyRemove(x, random);
                    anyChange(x, random, most);
                }
                anyAdd(x, random, points, most);
            }
        }
        System.out.println(wrong == 0 ? "all answers are as due" : wrong + " answers are not as due");
        if (wrong != 0) {
            System.exit(1);
        }
    }
}
