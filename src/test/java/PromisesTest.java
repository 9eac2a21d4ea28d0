/**
 * Each promise in turn: ordinary inputs, the edges that the document names, and wrong inputs. No answer is held to
 * be due after an object's 512th call, since the document promises none.
 */
public final class PromisesTest {
    private static final int BAD = -1;
    private static final int FULL = -2;
    private static final int[] NO_POINTS = {-1, 8, 9, 31, 32, Integer.MIN_VALUE, Integer.MAX_VALUE};
    private static final int[] NO_ROOMS = {-1, 100, Integer.MIN_VALUE, Integer.MAX_VALUE};
    private static final int[] NO_ENGINES = {-1, 7, Integer.MIN_VALUE, Integer.MAX_VALUE};
    private static final int[] NO_ARCS = {-1, 20, 21, 31, 32, 64, Integer.MIN_VALUE, Integer.MAX_VALUE};
    private static final int ALL_ARCS = (1 << 20) - 1;

    private static int wrong = 0;
    private static String part = "";

    private interface Query {
        int ask(int s, int t);
    }

    private static void due(String call, int got, int want) {
        if (got != want) {
            wrong++;
            System.out.println(part + ": " + call + " answered " + got + ", due is " + want);
        }
    }

    private static void due(String call, boolean got, boolean want) {
        due(call, got ? 1 : 0, want ? 1 : 0);
    }

    /** A new object with the arcs that are told as triples: from, to, room. */
    private static FlowSuite net(int... triples) {
        FlowSuite x = new FlowSuite();
        for (int i = 0; i < triples.length; i += 3) {
            due("add", x.add(triples[i], triples[i + 1], triples[i + 2]), i / 3);
        }
        return x;
    }

    private static void everyEngine(FlowSuite x, int s, int t, int want) {
        for (int engine = 0; engine < 7; engine++) {
            due("value(" + engine + ", " + s + ", " + t + ")", x.value(engine, s, t), want);
        }
    }

    private static void badEnds(String name, Query query) {
        for (int p = 0; p < 8; p++) {
            due(name + " from " + p + " to itself", query.ask(p, p), BAD);
            for (int no : NO_POINTS) {
                due(name + "(" + p + ", " + no + ")", query.ask(p, no), BAD);
                due(name + "(" + no + ", " + p + ")", query.ask(no, p), BAD);
            }
        }
        for (int no : NO_POINTS) {
            due(name + "(" + no + ", " + no + ")", query.ask(no, no), BAD);
        }
    }

    private static FlowSuite diamond() {
        return net(0, 1, 3, 0, 2, 2, 1, 3, 2, 2, 3, 3, 1, 2, 1);
    }

    private static FlowSuite full() {
        FlowSuite x = new FlowSuite();
        for (int k = 0; k < 20; k++) {
            due("add", x.add(k % 8, (k + 1) % 8, k), k);
        }
        return x;
    }

    /** All the room that there can be goes from 7 to 0. */
    private static FlowSuite widest() {
        FlowSuite x = new FlowSuite();
        for (int k = 0; k < 20; k++) {
            x.add(7, 0, 99);
        }
        return x;
    }

    private static void newObject() {
        part = "promise 1";
        FlowSuite x = new FlowSuite();
        due("arcs()", x.arcs(), 0);
        due("weakest()", x.weakest(), 0);
        for (int k = 0; k < 20; k++) {
            due("remove(" + k + ")", x.remove(k), BAD);
            due("change(" + k + ", 1)", x.change(k, 1), BAD);
        }
        for (int s = 0; s < 8; s++) {
            FlowSuite y = new FlowSuite();
            for (int t = 0; t < 8; t++) {
                if (s != t) {
                    everyEngine(y, s, t, 0);
                    due("least", y.least(s, t), 1 << s);
                    due("most", y.most(s, t), 255 - (1 << t));
                }
            }
        }
        FlowSuite one = net(0, 1, 5);
        FlowSuite other = new FlowSuite();
        due("arcs() of another object", other.arcs(), 0);
        due("arcs()", one.arcs(), 1);
    }

    private static void add() {
        part = "promise 2";
        FlowSuite x = net(0, 7, 0, 7, 0, 99, 0, 7, 5);
        everyEngine(x, 0, 7, 5);
        everyEngine(x, 7, 0, 99);
        badEnds("add with room 1", (a, b) -> x.add(a, b, 1));
        for (int no : NO_ROOMS) {
            due("add(0, 1, " + no + ")", x.add(0, 1, no), BAD);
        }
        due("arcs()", x.arcs(), 7);
        FlowSuite y = full();
        due("add(0, 1, 1) as the 21st", y.add(0, 1, 1), FULL);
        due("add(0, 0, 1) as the 21st", y.add(0, 0, 1), BAD);
        due("add(8, 0, 1) as the 21st", y.add(8, 0, 1), BAD);
        due("add(0, -1, 1) as the 21st", y.add(0, -1, 1), BAD);
        due("add(0, 1, 100) as the 21st", y.add(0, 1, 100), BAD);
        due("arcs()", y.arcs(), ALL_ARCS);
        y.remove(13);
        y.remove(4);
        due("add, the least free number", y.add(2, 5, 7), 4);
        due("add, the next free number", y.add(2, 5, 8), 13);
        due("add, none free", y.add(2, 5, 9), FULL);
        due("change(4, 0)", y.change(4, 0), 7);
        due("change(13, 0)", y.change(13, 0), 8);
    }

    private static void remove() {
        part = "promise 3";
        FlowSuite x = full();
        for (int no : NO_ARCS) {
            due("remove(" + no + ")", x.remove(no), BAD);
        }
        due("arcs()", x.arcs(), ALL_ARCS);
        for (int k = 19; k >= 0; k--) {
            due("remove(" + k + ")", x.remove(k), k);
            due("arcs()", x.arcs(), (1 << k) - 1);
            due("remove(" + k + ") again", x.remove(k), BAD);
        }
        FlowSuite y = diamond();
        due("remove(0)", y.remove(0), 3);
        everyEngine(y, 0, 3, 2);
        due("tight(0, 3) without arc 0", y.tight(0, 3), 2);
    }

    private static void change() {
        part = "promise 4";
        FlowSuite x = full();
        for (int no : NO_ARCS) {
            due("change(" + no + ", 5)", x.change(no, 5), BAD);
        }
        for (int k = 0; k < 20; k++) {
            for (int no : NO_ROOMS) {
                due("change(" + k + ", " + no + ")", x.change(k, no), BAD);
            }
            due("change(" + k + ", 99)", x.change(k, 99), k);
            due("change(" + k + ", 0)", x.change(k, 0), 99);
            due("change(" + k + ", 0) again", x.change(k, 0), 0);
        }
        due("arcs()", x.arcs(), ALL_ARCS);
        due("change(3, 42)", x.change(3, 42), 0);
        everyEngine(x, 3, 4, 42);
        due("remove(3)", x.remove(3), 42);
        due("change(3, 1) when taken away", x.change(3, 1), BAD);
        due("arcs()", x.arcs(), ALL_ARCS - 8);
    }

    private static void arcs() {
        part = "promise 5";
        FlowSuite x = diamond();
        due("arcs()", x.arcs(), 31);
        x.remove(2);
        due("arcs() without 2", x.arcs(), 27);
        x.change(0, 0);
        due("arcs(), one of room 0", x.arcs(), 27);
        x.add(4, 5, 0);
        due("arcs() with 2 again", x.arcs(), 31);
    }

    private static void value() {
        part = "promise 6";
        everyEngine(diamond(), 0, 3, 5);
        everyEngine(diamond(), 3, 0, 0);
        // Only a path that goes back along an arc makes the second way.
        everyEngine(net(0, 1, 1, 0, 2, 1, 1, 2, 1, 1, 3, 1, 2, 3, 1), 0, 3, 2);
        everyEngine(net(0, 1, 9, 1, 2, 9, 2, 3, 9, 3, 4, 9, 4, 5, 9, 5, 6, 9, 6, 7, 8), 0, 7, 8);
        // What comes into s or goes out of t brings nothing.
        everyEngine(net(0, 1, 4, 1, 0, 3, 1, 2, 2, 2, 1, 5), 0, 2, 2);
        FlowSuite wide = widest();
        everyEngine(wide, 7, 0, 1980);
        everyEngine(wide, 0, 7, 0);
        for (int engine = 0; engine < 7; engine++) {
            int used = engine;
            FlowSuite y = diamond();
            badEnds("value", (s, t) -> y.value(used, s, t));
        }
        FlowSuite x = diamond();
        for (int no : NO_ENGINES) {
            due("value(" + no + ", 0, 3)", x.value(no, 0, 3), BAD);
            due("value(" + no + ", 3, 3)", x.value(no, 3, 3), BAD);
        }
    }

    private static void agree() {
        part = "promise 7";
        FlowSuite x = diamond();
        for (int engine = 0; engine < 7; engine++) {
            for (int other = 0; other < 7; other++) {
                due("agree on 5", x.agree(engine, other, 0, 3), true);
                due("agree on 0", x.agree(engine, other, 3, 0), true);
                due("agree from a point to itself", x.agree(engine, other, 3, 3), false);
                due("agree from no point", x.agree(engine, other, -1, 3), false);
                due("agree to no point", x.agree(engine, other, 3, 8), false);
            }
            for (int no : NO_ENGINES) {
                due("agree with no such engine", x.agree(engine, no, 0, 3), false);
                due("agree of no such engine", x.agree(no, engine, 0, 3), false);
                due("agree of none such", x.agree(no, no, 0, 3), false);
            }
        }
    }

    private static void sides() {
        FlowSuite chain = net(0, 1, 4, 1, 2, 4, 2, 3, 4);
        FlowSuite x = diamond();
        part = "promise 8";
        due("least(0, 3)", chain.least(0, 3), 1);
        due("least(1, 3)", chain.least(1, 3), 2);
        due("least(3, 0)", chain.least(3, 0), 8);
        due("least(0, 3)", x.least(0, 3), 1);
        chain.change(0, 5);
        due("least(0, 3), the first one wider", chain.least(0, 3), 3);
        due("least(7, 0) of the greatest size", widest().least(7, 0), 128);
        badEnds("least", x::least);
        part = "promise 9";
        due("most(0, 3)", chain.most(0, 3), 247);
        due("most(3, 0)", chain.most(3, 0), 254);
        chain.change(2, 5);
        due("most(0, 3), the last one wider", chain.most(0, 3), 243);
        due("most(0, 3)", x.most(0, 3), 247);
        due("most(7, 0) of the greatest size", widest().most(7, 0), 254);
        badEnds("most", x::most);
    }

    private static void tight() {
        part = "promise 10";
        FlowSuite chain = net(0, 1, 4, 1, 2, 4, 2, 3, 5, 3, 0, 0, 4, 5, 0, 0, 3, 0);
        // 3 to 0 goes into s; 4 to 5 hangs on nothing, and some side of the least size has 4 without 5.
        due("tight(0, 3)", chain.tight(0, 3), 1 + 2 + 16 + 32);
        due("tight(3, 0)", chain.tight(3, 0), 8 + 16);
        // The sides 0, then 0 and 1, then 0, 1 and 2 are of the least size.
        due("tight(0, 3) of the diamond", diamond().tight(0, 3), 31);
        due("tight(0, 1) of an arc of room 0", net(0, 1, 0).tight(0, 1), 1);
        due("tight(1, 0) of an arc of room 0", net(0, 1, 0).tight(1, 0), 0);
        // Full, but point 1 reaches point 2 in another way.
        due("tight of a full arc beside an idle way", net(0, 1, 1, 1, 2, 1, 1, 2, 1, 2, 3, 1).tight(0, 3), 1 + 8);
        due("tight(7, 0) of the greatest size", widest().tight(7, 0), ALL_ARCS);
        badEnds("tight", chain::tight);
    }

    private static void widening() {
        part = "promise 11";
        FlowSuite chain = net(0, 1, 4, 1, 2, 4, 2, 3, 5);
        due("widening of two in a row", chain.widening(0, 3), 0);
        chain.change(0, 9);
        due("widening of the least one", chain.widening(0, 3), 2);
        due("widening of none", new FlowSuite().widening(0, 3), 0);
        due("widening beside each other", net(0, 1, 99, 0, 1, 0, 1, 0, 3).widening(0, 1), 3);
        due("widening of room 0 in the middle", net(0, 1, 4, 1, 2, 0, 2, 3, 5).widening(0, 3), 2);
        due("widening of the diamond", diamond().widening(0, 3), 0);
        due("widening(7, 0) of the greatest size", widest().widening(7, 0), ALL_ARCS);
        badEnds("widening", chain::widening);
    }

    private static void ways() {
        // Two ways that meet at point 2, a third along an arc of room 0, and one straight there.
        FlowSuite x = net(0, 1, 9, 0, 2, 9, 1, 2, 9, 2, 3, 1, 2, 4, 50, 3, 4, 1, 0, 5, 7, 5, 4, 0, 0, 4, 1);
        part = "promise 12";
        due("apart(0, 4)", x.apart(0, 4), 3);
        due("apart(4, 0)", x.apart(4, 0), 0);
        due("apart of arcs beside each other", net(0, 1, 5, 0, 1, 1, 0, 1, 0).apart(0, 1), 2);
        badEnds("apart", x::apart);
        part = "promise 13";
        due("separate(0, 4)", x.separate(0, 4), 2);
        due("separate(4, 0)", x.separate(4, 0), 0);
        due("separate(0, 2)", x.separate(0, 2), 2);
        due("separate of arcs beside each other", net(0, 1, 5, 0, 1, 1, 0, 1, 0).separate(0, 1), 2);
        due("separate past one point", net(0, 1, 5, 0, 1, 1, 1, 2, 5, 1, 2, 5).separate(0, 2), 1);
        due("separate of 7", net(0, 7, 1, 0, 1, 1, 1, 7, 1, 0, 2, 1, 2, 7, 1, 0, 3, 1, 3, 7, 1, 0, 4, 1, 4, 7, 1,
                0, 5, 1, 5, 7, 1, 0, 6, 1, 6, 7, 1).separate(0, 7), 7);
        badEnds("separate", x::separate);
        part = "promise 16";
        due("fewest(0, 4)", x.fewest(0, 4), 3);
        due("fewest(4, 0)", x.fewest(4, 0), 0);
        due("fewest, many small or one great", net(0, 1, 1, 0, 1, 1, 0, 1, 1, 1, 2, 99).fewest(0, 2), 1);
        due("fewest of twenty", full20().fewest(2, 6), 20);
        due("fewest of none", new FlowSuite().fewest(2, 6), 0);
        badEnds("fewest", x::fewest);
    }

    private static FlowSuite full20() {
        FlowSuite x = new FlowSuite();
        for (int k = 0; k < 20; k++) {
            x.add(2, 6, k + 1);
        }
        return x;
    }

    private static void weakest() {
        part = "promise 14";
        FlowSuite ring = net(0, 1, 9, 1, 2, 8, 2, 3, 7, 3, 4, 6, 4, 5, 5, 5, 6, 4, 6, 7, 30, 7, 0, 20);
        due("weakest of a ring", ring.weakest(), 4);
        ring.change(5, 99);
        due("weakest of a wider ring", ring.weakest(), 5);
        ring.add(4, 5, 50);
        due("weakest of a ring with one arc doubled", ring.weakest(), 6);
        ring.remove(7);
        due("weakest of a broken ring", ring.weakest(), 0);
        due("weakest of a full ring", fullRing().weakest(), 99);
    }

    private static FlowSuite fullRing() {
        FlowSuite x = new FlowSuite();
        for (int p = 0; p < 8; p++) {
            x.add(p, (p + 1) % 8, 99);
        }
        return x;
    }

    private static void throttled() {
        part = "promise 15";
        FlowSuite x = net(0, 1, 50, 1, 3, 60, 0, 2, 40, 2, 3, 30, 0, 3, 7, 1, 2, 10);
        due("throttled(0, 3, 0)", x.throttled(0, 3, 0), 7);
        due("throttled(0, 3, 1)", x.throttled(0, 3, 1), 9);
        due("throttled(0, 3, 40)", x.throttled(0, 3, 40), 77);
        due("throttled(0, 3, 99)", x.throttled(0, 3, 99), 87);
        due("throttled(3, 0, 99)", x.throttled(3, 0, 99), 0);
        FlowSuite heavy = net(0, 1, 99, 0, 1, 99, 1, 2, 99, 1, 2, 99, 2, 1, 5, 1, 0, 5);
        due("throttled(0, 2, 99) by one point", heavy.throttled(0, 2, 99), 99);
        due("throttled(0, 2, 98) by one point", heavy.throttled(0, 2, 98), 98);
        due("throttled(0, 1, 1), the ends are free", heavy.throttled(0, 1, 1), 198);
        for (int no : NO_ROOMS) {
            due("throttled(0, 3, " + no + ")", x.throttled(0, 3, no), BAD);
        }
        badEnds("throttled", (s, t) -> x.throttled(s, t, 5));
    }

    private static void refusals() {
        part = "promise 17";
        FlowSuite x = full();
        int[] before = answers(x);
        x.add(0, 1, 1);
        x.add(0, 0, 1);
        x.add(0, 1, 100);
        x.remove(-1);
        x.remove(20);
        x.remove(32);
        x.change(-1, 5);
        x.change(20, 5);
        x.change(5, 100);
        x.change(5, -1);
        x.agree(0, 7, 0, 1);
        x.throttled(0, 1, 100);
        int[] after = answers(x);
        for (int i = 0; i < before.length; i++) {
            due("answer " + i + " after refused calls", after[i], before[i]);
        }
        for (int i = 0; i < 20; i++) {
            due("room of arc " + i, x.change(i, i), i);
        }
    }

    /** What these calls answer is free, but none may throw. */
    private static void longRun() {
        part = "a long run";
        FlowSuite x = diamond();
        int[] odd = {Integer.MIN_VALUE, -1, 0, 1, 3, 7, 8, 20, 99, 100, Integer.MAX_VALUE};
        for (int p : odd) {
            x.remove(p);
            for (int q : odd) {
                x.change(p, q);
                x.least(p, q);
                x.most(p, q);
                x.tight(p, q);
                x.widening(p, q);
                x.apart(p, q);
                x.separate(p, q);
                x.fewest(p, q);
                for (int r : odd) {
                    x.add(p, q, r);
                    x.value(p, q, r);
                    x.throttled(p, q, r);
                    x.agree(r, 6, p, q);
                }
            }
            x.weakest();
            x.arcs();
        }
    }

    private static int[] answers(FlowSuite x) {
        int[] all = new int[1 + 56 * 3];
        all[0] = x.arcs();
        int n = 1;
        for (int s = 0; s < 8; s++) {
            for (int t = 0; t < 8; t++) {
                if (s != t) {
                    all[n++] = x.value(1, s, t);
                    all[n++] = x.tight(s, t);
                    all[n++] = x.throttled(s, t, 3);
                }
            }
        }
        return all;
    }

    public static void main(String[] args) {
        newObject();
        add();
        remove();
        change();
        arcs();
        value();
        agree();
        sides();
        tight();
        widening();
        ways();
        weakest();
        throttled();
        refusals();
        longRun();
        System.out.println(wrong == 0 ? "all answers are as due" : wrong + " answers are not as due");
        if (wrong != 0) {
            System.exit(1);
        }
    }
}
