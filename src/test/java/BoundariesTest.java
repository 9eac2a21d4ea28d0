/**
 * Each sentence of the document that names a boundary case, with a test of its own: the sentence stands above what
 * must hold for it. Every test makes its own objects, and asks none of them more than 512 times unless it says so.
 */
public final class BoundariesTest {
    private static final int BAD = FlowSuite.BAD;
    private static final int FULL = FlowSuite.FULL;
    private static final int LOW = Integer.MIN_VALUE;
    private static final int HIGH = Integer.MAX_VALUE;
    // Beside the nearest ones stand those that a shift or a narrower type would take for good ones.
    private static final int[] NO_POINTS = {-1, 8, -8, 31, 32, 33, 256, 257, 65537, LOW, LOW + 1, HIGH};
    private static final int[] NO_ROOMS = {-1, 100, -99, 128, 256, 257, 65537, LOW, LOW + 1, HIGH};
    private static final int[] NO_ARCS = {-1, 20, -20, 31, 32, 33, 51, 64, 256, 257, 65537, LOW, LOW + 1, HIGH};
    private static final int[] NO_ENGINES = {-1, 7, -6, 32, 256, 257, 65537, LOW, LOW + 1, HIGH};
    private static final int ALL_ARCS = (1 << 20) - 1;
    private static final int ALL_POINTS = 255;

    private static int wrong = 0;
    private static String sentence = "";

    private interface Query {
        int ask(FlowSuite x, int s, int t);
    }

    private interface Call {
        int on(FlowSuite x);
    }

    private static void says(String where, String words) {
        sentence = where + ", \"" + words + "\"";
    }

    /** What follows from the sentence that was told last. */
    private static void hence(String gloss) {
        sentence = sentence + ", hence " + gloss;
    }

    private static void due(String call, int got, int want) {
        if (got != want) {
            wrong++;
            System.out.println(sentence + ": " + call + " answered " + got + ", due is " + want);
        }
    }

    private static void due(String call, boolean got, boolean want) {
        due(call, got ? 1 : 0, want ? 1 : 0);
    }

    // Networks.

    /** A new object with the arcs that are told as triples: from, to, room. */
    private static FlowSuite net(int... triples) {
        FlowSuite x = new FlowSuite();
        for (int i = 0; i < triples.length; i += 3) {
            due("add as a beginning", x.add(triples[i], triples[i + 1], triples[i + 2]), i / 3);
        }
        return x;
    }

    private static FlowSuite beside(int count, int s, int t, int room) {
        FlowSuite x = new FlowSuite();
        for (int k = 0; k < count; k++) {
            due("add as a beginning", x.add(s, t, room), k);
        }
        return x;
    }

    /** Twenty arcs around the ring of points, arc k with room k + 1. */
    private static FlowSuite full() {
        FlowSuite x = new FlowSuite();
        for (int k = 0; k < 20; k++) {
            due("add as a beginning", x.add(k % 8, (k + 1) % 8, k + 1), k);
        }
        return x;
    }

    /** The same without the arcs 3 and 17. */
    private static FlowSuite gapped() {
        FlowSuite x = full();
        due("remove(3)", x.remove(3), 4);
        due("remove(17)", x.remove(17), 18);
        return x;
    }

    // Questions.

    private static void everyEngine(FlowSuite x, int s, int t, int want) {
        for (int engine = 0; engine < 7; engine++) {
            due("value(" + engine + ", " + s + ", " + t + ")", x.value(engine, s, t), want);
        }
    }

    private static void refusesNoPoint(String name, Query query) {
        for (int no : NO_POINTS) {
            FlowSuite x = full();
            for (int p = 0; p < 8; p++) {
                due(name + "(" + no + ", " + p + ")", query.ask(x, no, p), BAD);
                due(name + "(" + p + ", " + no + ")", query.ask(x, p, no), BAD);
            }
            due(name + "(" + no + ", " + no + ")", query.ask(x, no, no), BAD);
            due("arcs()", x.arcs(), ALL_ARCS);
        }
    }

    private static void refusesTheSame(String name, Query query) {
        FlowSuite x = full();
        for (int p = 0; p < 8; p++) {
            due(name + "(" + p + ", " + p + ")", query.ask(x, p, p), BAD);
        }
    }

    private static void takesEveryTwo(String name, Query query) {
        for (int s = 0; s < 8; s++) {
            FlowSuite x = new FlowSuite();
            for (int t = 0; t < 8; t++) {
                if (s != t) {
                    due(name + "(" + s + ", " + t + ") is good", query.ask(x, s, t) >= 0, true);
                }
            }
        }
    }

    private static void badAsInLeast(String promise, String name, Query query) {
        says(promise, "s or t is not 0 .. 7");
        refusesNoPoint(name, query);
        takesEveryTwo(name, query);
        says(promise, "or they are the same");
        refusesTheSame(name, query);
    }

    // What it is.

    /** Asks so often that count calls have been made on x, which has had made of them. */
    private static void askUpTo(FlowSuite x, int made, int count) {
        for (int i = made; i < count; i++) {
            switch (i % 4) {
                case 0:
                    due("call " + (i + 1) + ", change(0, 5)", x.change(0, 5), 5);
                    break;
                case 1:
                    due("call " + (i + 1) + ", add(4, 4, 1)", x.add(4, 4, 1), BAD);
                    break;
                case 2:
                    due("call " + (i + 1) + ", value", x.value(i % 7, 0, 2), 5);
                    break;
                default:
                    due("call " + (i + 1) + ", tight", x.tight(0, 2), 1);
                    break;
            }
        }
    }

    private static FlowSuite after511Calls() {
        FlowSuite x = net(0, 1, 5, 1, 2, 7);
        askUpTo(x, 2, 511);
        return x;
    }

    private static void calls512() {
        says("What it is", "An object is used for at most 512 calls after it has been made");
        due("add as the 512th", after511Calls().add(0, 2, 9), 2);
        due("remove as the 512th", after511Calls().remove(1), 7);
        due("change as the 512th", after511Calls().change(1, 8), 7);
        due("arcs as the 512th", after511Calls().arcs(), 3);
        for (int engine = 0; engine < 7; engine++) {
            due("value as the 512th", after511Calls().value(engine, 0, 2), 5);
            due("agree as the 512th", after511Calls().agree(engine, 6 - engine, 0, 2), true);
        }
        due("least as the 512th", after511Calls().least(0, 2), 1);
        due("most as the 512th", after511Calls().most(0, 2), ALL_POINTS - 2 - 4);
        due("tight as the 512th", after511Calls().tight(0, 2), 1);
        due("widening as the 512th", after511Calls().widening(0, 2), 1);
        due("apart as the 512th", after511Calls().apart(0, 2), 1);
        due("separate as the 512th", after511Calls().separate(0, 2), 1);
        due("weakest as the 512th", after511Calls().weakest(), 0);
        due("throttled as the 512th", after511Calls().throttled(0, 2, 4), 4);
        due("fewest as the 512th", after511Calls().fewest(0, 2), 1);
    }

    private static void addsAndRemoves512() {
        says("What it is", "at most 512 calls after it has been made");
        hence("each of them may change the arcs");
        FlowSuite x = new FlowSuite();
        for (int i = 0; i < 256; i++) {
            due("add of room " + i % 100, x.add(i % 8, (i + 3) % 8, i % 100), 0);
            due("remove of room " + i % 100, x.remove(0), i % 100);
        }
        FlowSuite y = new FlowSuite();
        for (int i = 0; i < 512; i++) {
            due("add " + i, y.add(6, 7, 99), i < 20 ? i : FULL);
        }
    }

    private static void callsAfter512() {
        says("What it is", "what later calls answer is free");
        hence("they need only end, and not throw");
        FlowSuite x = net(0, 1, 5, 1, 2, 7);
        askUpTo(x, 2, 512);
        int[] any = {LOW, -1, 0, 1, 6, 7, 8, 19, 20, 99, 100, HIGH};
        for (int p : any) {
            for (int q : any) {
                x.change(p, q);
                x.least(p, q);
                x.most(p, q);
                x.tight(p, q);
                x.widening(p, q);
                x.apart(p, q);
                x.separate(p, q);
                x.fewest(p, q);
                for (int r : any) {
                    x.add(p, q, r);
                    x.value(r, p, q);
                    x.agree(r, p, p, q);
                    x.throttled(p, q, r);
                }
                x.remove(q);
            }
            x.weakest();
            x.arcs();
        }
    }

    // Terms.

    private static void points() {
        says("Terms", "POINTS 0 .. 7");
        for (int p = 0; p < 8; p++) {
            int before = (p + 7) % 8;
            int after = (p + 1) % 8;
            FlowSuite x = net(before, p, 3, p, after, 2);
            everyEngine(x, before, after, 2);
            due("least through " + p, x.least(before, after), 1 << before | 1 << p);
            due("throttled through " + p, x.throttled(before, after, 1), 1);
            due("separate through " + p, x.separate(before, after), 1);
        }
        says("Terms", "an arc goes from a point to another one");
        for (int a = 0; a < 8; a++) {
            for (int b = 0; b < 8; b++) {
                due("add(" + a + ", " + b + ", 1)", new FlowSuite().add(a, b, 1), a == b ? BAD : 0);
            }
        }
    }

    private static void twentyArcs() {
        says("Terms", "at most 20 ARCS, with numbers 0 .. 19");
        FlowSuite x = new FlowSuite();
        for (int k = 0; k < 20; k++) {
            due("add of arc " + k, x.add(0, 1, 99), k);
        }
        due("add of a 21st", x.add(0, 1, 99), FULL);
        due("arcs()", x.arcs(), ALL_ARCS);
        everyEngine(x, 0, 1, 20 * 99);
        due("change(0, 98)", x.change(0, 98), 99);
        due("change(19, 97)", x.change(19, 97), 99);
        everyEngine(x, 0, 1, 20 * 99 - 3);
        due("remove(0)", x.remove(0), 98);
        due("remove(19)", x.remove(19), 97);
        everyEngine(x, 0, 1, 18 * 99);
    }

    private static void roomsInTerms() {
        says("Terms", "a ROOM (0 .. 99)");
        for (int room = 0; room < 100; room++) {
            FlowSuite x = net(3, 4, room);
            due("value over room " + room, x.value(room % 7, 3, 4), room);
            due("remove of room " + room, x.remove(0), room);
        }
        says("Terms", "a whole number from 0 to its room");
        everyEngine(net(0, 1, 0), 0, 1, 0);
        everyEngine(net(0, 1, 1), 0, 1, 1);
        everyEngine(net(0, 1, 99), 0, 1, 99);
        everyEngine(net(0, 1, 99, 1, 2, 0), 0, 2, 0);
        everyEngine(net(0, 1, 0, 1, 2, 99), 0, 2, 0);
    }

    private static void severalArcs() {
        says("Terms", "Several arcs may go from one point to another");
        FlowSuite x = net(5, 6, 10, 5, 6, 10, 6, 5, 4, 5, 6, 0);
        everyEngine(x, 5, 6, 20);
        everyEngine(x, 6, 5, 4);
        due("remove(0)", x.remove(0), 10);
        everyEngine(x, 5, 6, 10);
        due("tight(5, 6)", x.tight(5, 6), 2 + 8);
    }

    private static void flows() {
        says("Terms", "for every point but s and t the numbers of the arcs that come in have the same sum");
        everyEngine(net(0, 1, 9, 0, 1, 9, 1, 2, 9, 1, 3, 3, 3, 2, 2), 0, 2, 11);
        everyEngine(net(0, 1, 9, 2, 3, 9), 0, 3, 0);
        says("Terms", "minus that of the arcs that come into s");
        everyEngine(net(0, 1, 9, 1, 0, 9), 0, 1, 9);
        everyEngine(net(0, 1, 9, 1, 0, 8, 1, 2, 3), 0, 2, 3);
        everyEngine(net(3, 0, 50, 0, 1, 2), 0, 1, 2);
        everyEngine(net(0, 1, 2, 1, 3, 50, 3, 0, 50), 0, 1, 2);
    }

    private static void sidesInTerms() {
        says("Terms", "a set of points (bit p for point p) that has s and not t");
        for (int s = 0; s < 8; s++) {
            FlowSuite x = full();
            for (int t = 0; t < 8; t++) {
                if (s != t) {
                    due("least has s, not t", x.least(s, t) & (1 << s | 1 << t), 1 << s);
                    due("most has s, not t", x.most(s, t) & (1 << s | 1 << t), 1 << s);
                }
            }
        }
        says("Terms", "it CUTS the arcs that go from a point in it to one that is not");
        FlowSuite y = net(1, 0, 99, 0, 2, 1, 2, 1, 1, 1, 2, 99);
        everyEngine(y, 0, 1, 1);
        due("tight(0, 1), the arcs back are not cut", y.tight(0, 1), 2 + 4);
        says("Terms", "The least size of a side is the greatest value of a flow");
        everyEngine(net(0, 1, 99, 0, 2, 99, 1, 3, 1, 2, 3, 2, 3, 7, 99), 0, 7, 3);
        everyEngine(net(0, 1, 1, 0, 2, 2, 1, 3, 99, 2, 3, 99, 3, 7, 99), 0, 7, 3);
        everyEngine(net(0, 1, 99, 0, 2, 99, 1, 3, 99, 2, 3, 99, 3, 7, 3), 0, 7, 3);
    }

    private static void engines() {
        says("Terms", "An ENGINE is a number 0 .. 6");
        FlowSuite x = net(2, 3, 6);
        for (int engine = -3; engine < 10; engine++) {
            due("value(" + engine + ", 2, 3)", x.value(engine, 2, 3), engine >= 0 && engine <= 6 ? 6 : BAD);
        }
        says("Terms", "no answer depends on it");
        // Here a greedy first path must be taken back, and the widest one is not the shortest.
        FlowSuite y = net(0, 1, 2, 0, 2, 7, 2, 1, 5, 1, 3, 5, 2, 4, 3, 3, 7, 9, 4, 3, 3, 4, 7, 1, 1, 2, 4);
        everyEngine(y, 0, 7, 8);
        everyEngine(y, 1, 7, 8);
        everyEngine(y, 0, 3, 8);
        everyEngine(y, 7, 0, 0);
        // An engine leaves nothing behind that the next one sees.
        for (int engine = 6; engine >= 0; engine--) {
            due("value again", y.value(engine, 0, 7), 8);
        }
    }

    // Promise 1.

    private static void newObject() {
        says("Promise 1", "No arcs");
        due("arcs()", new FlowSuite().arcs(), 0);
        for (int k = 0; k < 20; k++) {
            due("remove(" + k + ")", new FlowSuite().remove(k), BAD);
            due("change(" + k + ", 0)", new FlowSuite().change(k, 0), BAD);
        }
        due("add(0, 1, 0)", new FlowSuite().add(0, 1, 0), 0);
        due("weakest()", new FlowSuite().weakest(), 0);
        FlowSuite used = full();
        due("arcs() of a new one beside a full one", new FlowSuite().arcs(), 0);
        due("arcs() of the full one", used.arcs(), ALL_ARCS);
        for (int s = 0; s < 8; s++) {
            FlowSuite x = new FlowSuite();
            for (int t = 0; t < 8; t++) {
                if (s != t) {
                    everyEngine(x, s, t, 0);
                    due("tight", x.tight(s, t), 0);
                    due("widening", x.widening(s, t), 0);
                    due("apart", x.apart(s, t), 0);
                    due("separate", x.separate(s, t), 0);
                    due("throttled", x.throttled(s, t, 99), 0);
                    due("fewest", x.fewest(s, t), 0);
                }
            }
        }
    }

    // Promise 2.

    private static void addNumbers() {
        says("Promise 2", "answers the least number that none has");
        FlowSuite x = gapped();
        due("add with 3 and 17 free", x.add(0, 2, 50), 3);
        due("add with 17 free", x.add(0, 2, 51), 17);
        due("remove(19)", x.remove(19), 20);
        due("remove(0)", x.remove(0), 1);
        due("add with 0 and 19 free", x.add(0, 2, 52), 0);
        due("add with 19 free", x.add(0, 2, 53), 19);
        due("remove(3)", x.remove(3), 50);
        due("remove(17)", x.remove(17), 51);
        due("remove(0)", x.remove(0), 52);
        due("remove(19)", x.remove(19), 53);
        FlowSuite y = net(0, 1, 1, 1, 2, 1);
        due("remove(1)", y.remove(1), 1);
        due("add after the last was taken away", y.add(1, 2, 1), 1);
        due("remove(0)", y.remove(0), 1);
        due("remove(1)", y.remove(1), 1);
        due("add when none is left", y.add(1, 2, 1), 0);
    }

    private static void addRefusals() {
        says("Promise 2", "BAD when a or b is not 0 .. 7");
        refusesNoPoint("add with room 1", (x, a, b) -> x.add(a, b, 1));
        for (int no : NO_POINTS) {
            FlowSuite x = new FlowSuite();
            due("add(" + no + ", 0, 1)", x.add(no, 0, 1), BAD);
            due("add(7, " + no + ", 1)", x.add(7, no, 1), BAD);
            due("arcs()", x.arcs(), 0);
        }
        due("add(0, 7, 1)", new FlowSuite().add(0, 7, 1), 0);
        due("add(7, 0, 1)", new FlowSuite().add(7, 0, 1), 0);
        says("Promise 2", "they are the same");
        refusesTheSame("add with room 1", (x, a, b) -> x.add(a, b, 1));
        FlowSuite same = new FlowSuite();
        for (int p = 0; p < 8; p++) {
            due("add(" + p + ", " + p + ", 1)", same.add(p, p, 1), BAD);
        }
        due("arcs()", same.arcs(), 0);
        says("Promise 2", "or room is not 0 .. 99");
        FlowSuite y = new FlowSuite();
        for (int no : NO_ROOMS) {
            due("add(0, 1, " + no + ")", y.add(0, 1, no), BAD);
        }
        due("arcs()", y.arcs(), 0);
        due("add(0, 1, 0)", y.add(0, 1, 0), 0);
        due("add(0, 1, 99)", y.add(0, 1, 99), 1);
        everyEngine(y, 0, 1, 99);
    }

    private static void addWhenFull() {
        says("Promise 2", "FULL when there are twenty");
        FlowSuite x = beside(19, 0, 1, 1);
        due("add of the twentieth", x.add(0, 1, 1), 19);
        due("add of the 21st", x.add(0, 1, 1), FULL);
        due("add of the 21st elsewhere", x.add(7, 6, 0), FULL);
        everyEngine(x, 0, 1, 20);
        due("remove(7)", x.remove(7), 1);
        due("add with one free", x.add(1, 0, 5), 7);
        due("add with none free again", x.add(1, 0, 5), FULL);
        due("change(3, 0) frees none", x.change(3, 0), 1);
        due("add with one of room 0", x.add(1, 0, 5), FULL);
        says("Promise 2", "(tested in this order)");
        for (int no : NO_POINTS) {
            due("full: add(" + no + ", 1, 1)", x.add(no, 1, 1), BAD);
            due("full: add(1, " + no + ", 1)", x.add(1, no, 1), BAD);
        }
        for (int p = 0; p < 8; p++) {
            due("full: add(" + p + ", " + p + ", 1)", x.add(p, p, 1), BAD);
        }
        for (int no : NO_ROOMS) {
            due("full: add(0, 1, " + no + ")", x.add(0, 1, no), BAD);
        }
    }

    // Promises 3 to 5.

    private static void remove() {
        says("Promise 3", "Takes arc k away and answers its room");
        FlowSuite x = net(0, 1, 0, 0, 1, 99, 0, 1, 1);
        due("remove(0)", x.remove(0), 0);
        due("arcs()", x.arcs(), 6);
        due("remove(1)", x.remove(1), 99);
        due("arcs()", x.arcs(), 4);
        everyEngine(x, 0, 1, 1);
        due("remove(2)", x.remove(2), 1);
        due("arcs()", x.arcs(), 0);
        FlowSuite y = full();
        due("remove(19)", y.remove(19), 20);
        due("remove(0)", y.remove(0), 1);
        due("arcs()", y.arcs(), ALL_ARCS - 1 - (1 << 19));
        says("Promise 3", "BAD when there is none");
        for (int no : NO_ARCS) {
            FlowSuite z = full();
            due("remove(" + no + ")", z.remove(no), BAD);
            due("arcs()", z.arcs(), ALL_ARCS);
            due("remove(" + no + ") of no arcs", new FlowSuite().remove(no), BAD);
        }
        FlowSuite z = gapped();
        due("remove(3) a second time", z.remove(3), BAD);
        due("remove(17) a second time", z.remove(17), BAD);
        due("arcs()", z.arcs(), ALL_ARCS - (1 << 3) - (1 << 17));
        due("remove(1) of one arc", net(0, 1, 5).remove(1), BAD);
    }

    private static void change() {
        says("Promise 4", "Gives arc k another room and answers the one that it had");
        FlowSuite x = full();
        due("change(0, 99)", x.change(0, 99), 1);
        due("change(0, 0)", x.change(0, 0), 99);
        due("change(0, 0) once more", x.change(0, 0), 0);
        due("change(19, 0)", x.change(19, 0), 20);
        due("change(19, 99)", x.change(19, 99), 0);
        everyEngine(x, 3, 4, 99 + 4 + 12);
        says("Promise 4", "BAD, changing nothing, when there is none");
        for (int no : NO_ARCS) {
            FlowSuite y = full();
            due("change(" + no + ", 50)", y.change(no, 50), BAD);
            due("change(" + no + ", 100)", y.change(no, 100), BAD);
            for (int k = 0; k < 20; k++) {
                due("room of arc " + k, y.remove(k), k + 1);
            }
        }
        FlowSuite z = gapped();
        due("change(3, 50)", z.change(3, 50), BAD);
        due("change(17, 50)", z.change(17, 50), BAD);
        due("arcs()", z.arcs(), ALL_ARCS - (1 << 3) - (1 << 17));
        due("change(0, 1) of no arcs", new FlowSuite().change(0, 1), BAD);
        says("Promise 4", "or room is not 0 .. 99");
        for (int no : NO_ROOMS) {
            FlowSuite y = full();
            for (int k = 0; k < 20; k++) {
                due("change(" + k + ", " + no + ")", y.change(k, no), BAD);
                due("room of arc " + k, y.remove(k), k + 1);
            }
        }
    }

    private static void arcs() {
        says("Promise 5", "bit k for arc k");
        due("arcs() of none", new FlowSuite().arcs(), 0);
        due("arcs() of all", full().arcs(), ALL_ARCS);
        for (int k = 0; k < 20; k++) {
            FlowSuite x = full();
            for (int other = 0; other < 20; other++) {
                if (other != k) {
                    x.remove(other);
                }
            }
            due("arcs() of " + k + " alone", x.arcs(), 1 << k);
        }
        due("arcs() of one of room 0", net(0, 1, 0).arcs(), 1);
    }

    // Promises 6 and 7.

    private static void value() {
        says("Promise 6", "BAD when one is not 0 .. 7");
        for (int engine = 0; engine < 7; engine++) {
            int used = engine;
            refusesNoPoint("value of engine " + used, (x, s, t) -> x.value(used, s, t));
            takesEveryTwo("value of engine " + used, (x, s, t) -> x.value(used, s, t));
        }
        says("Promise 6", "they are the same");
        for (int engine = 0; engine < 7; engine++) {
            int used = engine;
            refusesTheSame("value of engine " + used, (x, s, t) -> x.value(used, s, t));
        }
        says("Promise 6", "or there is no such engine");
        for (int no : NO_ENGINES) {
            due("value(" + no + ", 0, 1)", full().value(no, 0, 1), BAD);
            due("value(" + no + ", 1, 1)", full().value(no, 1, 1), BAD);
            due("value(" + no + ", 0, 8)", full().value(no, 0, 8), BAD);
            due("value(" + no + ", 0, 1) of no arcs", new FlowSuite().value(no, 0, 1), BAD);
        }
    }

    private static void agree() {
        says("Promise 7", "Whether two engines come to the same value from s to t");
        FlowSuite x = full();
        FlowSuite none = new FlowSuite();
        for (int engine = 0; engine < 7; engine++) {
            for (int other = 0; other < 7; other++) {
                due("agree(" + engine + ", " + other + ", 0, 7)", x.agree(engine, other, 0, 7), true);
                due("agree(" + engine + ", " + other + ", 7, 0)", x.agree(engine, other, 7, 0), true);
                due("agree(" + engine + ", " + other + ", 0, 7) on 0", none.agree(engine, other, 0, 7), true);
            }
        }
        says("Promise 7", "false when value would be BAD for one of them");
        for (int no : NO_ENGINES) {
            FlowSuite y = full();
            for (int engine = 0; engine < 7; engine++) {
                due("agree(" + no + ", " + engine + ", 0, 1)", y.agree(no, engine, 0, 1), false);
                due("agree(" + engine + ", " + no + ", 0, 1)", y.agree(engine, no, 0, 1), false);
            }
            due("agree(" + no + ", " + no + ", 0, 1)", y.agree(no, no, 0, 1), false);
            due("agree(" + no + ", 7, 0, 1)", y.agree(no, 7, 0, 1), false);
        }
        refusesNoPoint("agree", (y, s, t) -> y.agree(0, 6, s, t) ? 1 : BAD);
        refusesNoPoint("agree of one engine", (y, s, t) -> y.agree(5, 5, s, t) ? 1 : BAD);
        refusesTheSame("agree", (y, s, t) -> y.agree(0, 6, s, t) ? 1 : BAD);
        refusesTheSame("agree of one engine", (y, s, t) -> y.agree(5, 5, s, t) ? 1 : BAD);
    }

    // Promises 8 and 9.

    private static void least() {
        says("Promise 8", "the least size with the least points: those that every side of the least size has");
        for (int s = 0; s < 8; s++) {
            int t = (s + 5) % 8;
            due("least of no arcs", new FlowSuite().least(s, t), 1 << s);
        }
        due("least, one arc of room 0", net(0, 1, 0).least(0, 1), 1);
        due("least, equal ones in a row", net(0, 1, 4, 1, 2, 4, 2, 3, 4).least(0, 3), 1);
        due("least, the last one the least", net(0, 1, 5, 1, 2, 5, 2, 3, 4).least(0, 3), 7);
        FlowSuite star = net(0, 1, 9, 0, 2, 9, 0, 3, 9, 0, 4, 9, 0, 5, 9, 0, 6, 9, 6, 7, 1);
        due("least, all points but t", star.least(0, 7), 127);
        due("least, t is not reached", net(0, 1, 9, 2, 7, 9).least(0, 7), 3);
        due("least, all the room there is", beside(20, 6, 7, 99).least(6, 7), 1 << 6);
        badAsInLeast("Promise 8", "least", FlowSuite::least);
    }

    private static void most() {
        says("Promise 9", "the least size with the most points: those that some side of the least size has");
        for (int s = 0; s < 8; s++) {
            int t = (s + 5) % 8;
            due("most of no arcs", new FlowSuite().most(s, t), ALL_POINTS - (1 << t));
        }
        due("most, one arc of room 0", net(0, 1, 0).most(0, 1), ALL_POINTS - 2);
        due("most, equal ones in a row", net(0, 1, 4, 1, 2, 4, 2, 3, 4).most(0, 3), ALL_POINTS - 8);
        due("most, the first one the least", net(0, 1, 4, 1, 2, 5, 2, 3, 5).most(0, 3), ALL_POINTS - 2 - 4 - 8);
        due("most, s alone", net(0, 7, 1, 1, 7, 9, 2, 7, 9, 3, 7, 9, 4, 7, 9, 5, 7, 9, 6, 7, 9).most(0, 7), 1);
        due("most, t is not reached", net(0, 1, 9, 2, 7, 9).most(0, 7), ALL_POINTS - 4 - 128);
        due("most, all the room there is", beside(20, 6, 7, 99).most(6, 7), ALL_POINTS - 128);
        badAsInLeast("Promise 9", "most", FlowSuite::most);
    }

    // Promises 10 and 11.

    private static void tight() {
        says("Promise 10", "The arcs that some side of the least size cuts: bit k for arc k");
        due("tight of no arcs", new FlowSuite().tight(0, 7), 0);
        due("tight, equal ones in a row", net(0, 1, 4, 1, 2, 4, 2, 3, 4).tight(0, 3), 7);
        due("tight, one the least", net(0, 1, 4, 1, 2, 3, 2, 3, 4).tight(0, 3), 2);
        due("tight, all arcs", beside(20, 6, 7, 99).tight(6, 7), ALL_ARCS);
        due("tight, all arcs the other way", beside(20, 6, 7, 99).tight(7, 6), 0);
        FlowSuite last = beside(20, 6, 7, 99);
        for (int k = 0; k < 19; k++) {
            due("remove(" + k + ")", last.remove(k), 99);
        }
        due("tight, arc 19 alone", last.tight(6, 7), 1 << 19);
        // An arc that has nothing to do with s and t but holds its ends together is cut by none of the least.
        due("tight, an arc elsewhere", net(0, 1, 4, 2, 3, 1).tight(0, 1), 1);
        says("Promise 10", "(Those of room 0 too.)");
        due("tight, room 0 alone", net(0, 1, 0).tight(0, 1), 1);
        due("tight, room 0 beside another", net(0, 1, 5, 0, 1, 0).tight(0, 1), 3);
        due("tight, room 0 elsewhere", net(0, 1, 5, 2, 3, 0).tight(0, 1), 3);
        due("tight, room 0 into s and out of t", net(0, 1, 5, 2, 0, 0, 1, 2, 0).tight(0, 1), 1);
        due("tight, room 0 between held points", net(0, 1, 5, 0, 2, 9, 0, 2, 0).tight(0, 1), 1);
        due("tight, twenty of room 0", beside(20, 6, 7, 0).tight(6, 7), ALL_ARCS);
        badAsInLeast("Promise 10", "tight", FlowSuite::tight);
    }

    private static void widening() {
        says("Promise 11", "The arcs with which alone, had each one more room, the greatest value would be greater");
        due("widening of no arcs", new FlowSuite().widening(0, 7), 0);
        due("widening, equal ones in a row: none alone", net(0, 1, 4, 1, 2, 4).widening(0, 2), 0);
        due("widening, one less by 1", net(0, 1, 4, 1, 2, 3).widening(0, 2), 2);
        due("widening, room 0 alone", net(0, 1, 0).widening(0, 1), 1);
        due("widening, two of room 0 in a row", net(0, 1, 0, 1, 2, 0).widening(0, 2), 0);
        due("widening, room 0 elsewhere", net(0, 1, 5, 2, 3, 0).widening(0, 1), 1);
        due("widening, beyond room 99", net(0, 1, 99).widening(0, 1), 1);
        due("widening, twenty beyond room 99", beside(20, 6, 7, 99).widening(6, 7), ALL_ARCS);
        due("widening, the other way", beside(20, 6, 7, 99).widening(7, 6), 0);
        due("widening, two beside each other", net(0, 1, 2, 0, 1, 3, 1, 2, 9).widening(0, 2), 3);
        says("Promise 11", "had each one more room");
        hence("none is given it");
        FlowSuite x = net(0, 1, 99, 1, 2, 98);
        due("widening(0, 2)", x.widening(0, 2), 2);
        due("widening(0, 2) again", x.widening(0, 2), 2);
        due("remove(0)", x.remove(0), 99);
        due("remove(1)", x.remove(1), 98);
        badAsInLeast("Promise 11", "widening", FlowSuite::widening);
    }

    // Promises 12 and 13.

    private static void apart() {
        says("Promise 12", "along arcs with a room above 0");
        due("apart of no arcs", new FlowSuite().apart(0, 1), 0);
        due("apart over room 0", net(0, 1, 0).apart(0, 1), 0);
        due("apart over room 1", net(0, 1, 1).apart(0, 1), 1);
        due("apart over room 99", net(0, 1, 99).apart(0, 1), 1);
        due("apart, one of room 0 on the way", net(0, 1, 9, 1, 2, 0, 0, 2, 1).apart(0, 2), 1);
        due("apart of twenty", beside(20, 6, 7, 99).apart(6, 7), 20);
        due("apart of twenty of room 0", beside(20, 6, 7, 0).apart(6, 7), 0);
        due("apart of twenty the other way", beside(20, 6, 7, 99).apart(7, 6), 0);
        says("Promise 12", "no two of which have an arc in common");
        due("apart past one wide arc", net(0, 1, 9, 0, 1, 9, 1, 2, 99, 2, 3, 9, 2, 3, 9).apart(0, 3), 1);
        due("apart past one point", net(0, 1, 9, 0, 1, 9, 1, 2, 9, 1, 2, 9).apart(0, 2), 2);
        due("apart, the middle arc left out", net(0, 1, 1, 0, 2, 1, 1, 2, 1, 1, 3, 1, 2, 3, 1).apart(0, 3), 2);
        badAsInLeast("Promise 12", "apart", FlowSuite::apart);
    }

    private static void separate() {
        says("Promise 13", "such ways no two of which have a point but s and t in common");
        due("separate of no arcs", new FlowSuite().separate(0, 1), 0);
        due("separate past one point", net(0, 1, 9, 0, 1, 9, 1, 2, 9, 1, 2, 9).separate(0, 2), 1);
        due("separate past one point and straight", net(0, 1, 9, 1, 2, 9, 1, 2, 9, 0, 2, 1).separate(0, 2), 2);
        due("separate past six points", net(0, 1, 1, 1, 7, 1, 0, 2, 1, 2, 7, 1, 0, 3, 1, 3, 7, 1, 0, 4, 1, 4, 7, 1,
                0, 5, 1, 5, 7, 1, 0, 6, 1, 6, 7, 1).separate(0, 7), 6);
        due("separate, the middle arc left out", net(0, 1, 1, 0, 2, 1, 1, 2, 1, 1, 3, 1, 2, 3, 1).separate(0, 3), 2);
        due("separate, two that must meet", net(0, 1, 1, 0, 2, 1, 1, 3, 1, 2, 3, 1, 3, 4, 1, 3, 5, 1, 4, 7, 1, 5, 7, 1)
                .separate(0, 7), 1);
        says("Promise 13", "The greatest number of such ways");
        hence("arcs of room 0 make none");
        due("separate over room 0", net(0, 1, 0).separate(0, 1), 0);
        due("separate over room 1", net(0, 1, 1).separate(0, 1), 1);
        due("separate over room 99", net(0, 1, 99).separate(0, 1), 1);
        due("separate, one of room 0 on the way", net(0, 1, 9, 1, 2, 0, 0, 2, 1).separate(0, 2), 1);
        due("separate of twenty of room 0", beside(20, 6, 7, 0).separate(6, 7), 0);
        says("Promise 13", "(and no arc)");
        due("separate of one straight arc", net(0, 1, 50).separate(0, 1), 1);
        due("separate of two straight arcs", net(0, 1, 50, 0, 1, 1).separate(0, 1), 2);
        due("separate of twenty", beside(20, 6, 7, 99).separate(6, 7), 20);
        due("separate of twenty the other way", beside(20, 6, 7, 99).separate(7, 6), 0);
        badAsInLeast("Promise 13", "separate", FlowSuite::separate);
    }

    // Promises 14 to 16.

    private static void weakest() {
        says("Promise 14", "The least value(engine, s, t) over all two different points");
        due("weakest of no arcs", new FlowSuite().weakest(), 0);
        due("weakest of twenty arcs between two points", beside(20, 6, 7, 99).weakest(), 0);
        FlowSuite ring = net(0, 1, 99, 1, 2, 99, 2, 3, 99, 3, 4, 99, 4, 5, 99, 5, 6, 99, 6, 7, 99, 7, 0, 99);
        due("weakest of a ring of room 99", ring.weakest(), 99);
        for (int k = 0; k < 8; k++) {
            due("change(" + k + ", 3)", ring.change(k, 3), 99);
            due("weakest by arc " + k, ring.weakest(), 3);
            due("change(" + k + ", 0)", ring.change(k, 0), 3);
            due("weakest by arc " + k + " of room 0", ring.weakest(), 0);
            due("change(" + k + ", 99)", ring.change(k, 99), 0);
        }
        for (int p = 0; p < 8; p++) {
            due("add beside the ring", ring.add(p, (p + 1) % 8, 99), 8 + p);
        }
        due("weakest of a double ring", ring.weakest(), 198);
        // Both directions count: every point reaches 7, but none is reached from there.
        FlowSuite oneWay = net(0, 1, 9, 1, 2, 9, 2, 3, 9, 3, 4, 9, 4, 5, 9, 5, 6, 9, 6, 7, 9);
        due("weakest of one direction", oneWay.weakest(), 0);
        due("add(7, 0, 2)", oneWay.add(7, 0, 2), 7);
        due("weakest with one way back of room 2", oneWay.weakest(), 2);
        due("weakest with a way back against the numbers", net(1, 0, 9, 2, 1, 9, 3, 2, 9, 4, 3, 9, 5, 4, 9, 6, 5, 9,
                7, 6, 9, 0, 7, 2).weakest(), 2);
    }

    private static void weakestBySidesOfOnePoint() {
        says("Promise 14", "over all two different points");
        hence("each point may be the one that sends, or the one that takes, the least");
        for (int p = 0; p < 8; p++) {
            FlowSuite x = new FlowSuite();
            for (int q = 0; q < 8; q++) {
                x.add(q, (q + 1) % 8, 50);
                x.add((q + 1) % 8, q, 50);
            }
            due("weakest of two rings", x.weakest(), 100);
            int before = (p + 7) % 8;
            // Of the arcs at p, 2p and 2 before + 1 go out, and 2p + 1 and 2 before come in.
            x.change(2 * p, 49);
            x.change(2 * before + 1, 49);
            due("weakest, out of " + p, x.weakest(), 98);
            x.change(2 * p, 50);
            x.change(2 * before + 1, 50);
            x.change(2 * p + 1, 49);
            x.change(2 * before, 49);
            due("weakest, into " + p, x.weakest(), 98);
        }
    }

    private static void throttled() {
        says("Promise 15", "each point but s and t could let at most so much (0 .. 99) through");
        FlowSuite x = net(0, 1, 99, 0, 1, 99, 1, 2, 99, 1, 2, 99);
        for (int much = 0; much < 100; much++) {
            due("throttled(0, 2, " + much + ")", x.throttled(0, 2, much), much);
        }
        due("throttled of no arcs", new FlowSuite().throttled(0, 1, 99), 0);
        due("throttled by less room than much", net(0, 1, 3, 1, 2, 4).throttled(0, 2, 99), 3);
        due("throttled in a row", net(0, 1, 9, 1, 2, 9, 2, 3, 9, 3, 4, 9).throttled(0, 4, 8), 8);
        due("throttled past two points", net(0, 1, 9, 1, 3, 9, 0, 2, 9, 2, 3, 9).throttled(0, 3, 8), 16);
        due("throttled where two ways meet", net(0, 1, 9, 1, 3, 9, 0, 2, 9, 2, 3, 9, 3, 4, 99).throttled(0, 4, 8), 8);
        says("Promise 15", "each point but s and t");
        hence("these let all through");
        due("throttled(0, 1, 0) of a straight arc", net(0, 1, 99).throttled(0, 1, 0), 99);
        due("throttled(6, 7, 0) of twenty", beside(20, 6, 7, 99).throttled(6, 7, 0), 1980);
        due("throttled(6, 7, 99) of twenty", beside(20, 6, 7, 99).throttled(6, 7, 99), 1980);
        due("throttled past s and t", net(0, 1, 9, 1, 0, 9, 2, 0, 9, 1, 2, 9).throttled(0, 1, 1), 9);
        says("Promise 15", "or when much is out of range");
        for (int no : NO_ROOMS) {
            due("throttled(0, 1, " + no + ")", full().throttled(0, 1, no), BAD);
            due("throttled(0, 1, " + no + ") of no arcs", new FlowSuite().throttled(0, 1, no), BAD);
            due("throttled(1, 1, " + no + ")", full().throttled(1, 1, no), BAD);
        }
        badAsInLeast("Promise 15", "throttled with 0", (y, s, t) -> y.throttled(s, t, 0));
        badAsInLeast("Promise 15", "throttled with 99", (y, s, t) -> y.throttled(s, t, 99));
    }

    private static void fewest() {
        says("Promise 16", "The least number of arcs, each taken out, without which the greatest value would be 0");
        due("fewest of no arcs", new FlowSuite().fewest(0, 1), 0);
        due("fewest, t is not reached", net(0, 1, 9, 2, 7, 9).fewest(0, 7), 0);
        due("fewest of twenty", beside(20, 6, 7, 99).fewest(6, 7), 20);
        due("fewest of twenty the other way", beside(20, 6, 7, 99).fewest(7, 6), 0);
        FlowSuite x = beside(20, 6, 7, 1);
        for (int k = 0; k < 20; k++) {
            due("fewest of " + (20 - k), x.fewest(6, 7), 20 - k);
            due("value of " + (20 - k), x.value(k % 7, 6, 7), 20 - k);
            due("remove(" + k + ")", x.remove(k), 1);
        }
        due("fewest is of arcs, not of room", net(0, 1, 1, 0, 1, 1, 1, 2, 99).fewest(0, 2), 1);
        says("Promise 16", "the least number of arcs with a room above 0 that a side cuts");
        due("fewest over room 0", net(0, 1, 0).fewest(0, 1), 0);
        due("fewest over room 1", net(0, 1, 1).fewest(0, 1), 1);
        due("fewest over rooms 0, 99 and 0", net(0, 1, 0, 0, 1, 99, 0, 1, 0).fewest(0, 1), 1);
        due("fewest of twenty of room 0", beside(20, 6, 7, 0).fewest(6, 7), 0);
        badAsInLeast("Promise 16", "fewest", FlowSuite::fewest);
    }

    // Promise 17.

    /** Everything that x tells; the arcs are taken away in the end, since only that tells their rooms. */
    private static int[] allThatIsTold(FlowSuite x) {
        int[] told = new int[2 + 56 * 4 + 20];
        int n = 0;
        told[n++] = x.arcs();
        told[n++] = x.weakest();
        for (int s = 0; s < 8; s++) {
            for (int t = 0; t < 8; t++) {
                if (s != t) {
                    told[n++] = x.value((s + t) % 7, s, t);
                    told[n++] = x.tight(s, t);
                    told[n++] = x.separate(s, t);
                    told[n++] = x.throttled(s, t, 3);
                }
            }
        }
        for (int k = 0; k < 20; k++) {
            told[n++] = x.remove(k);
        }
        return told;
    }

    private static void changesNothing(String name, boolean whenFull, int want, Call call) {
        FlowSuite x = whenFull ? full() : gapped();
        due(name, call.on(x), want);
        int[] told = allThatIsTold(x);
        int[] before = allThatIsTold(whenFull ? full() : gapped());
        for (int i = 0; i < told.length; i++) {
            due("after " + name + ", answer " + i, told[i], before[i]);
        }
    }

    private static void refusedByCode() {
        says("Promise 17", "a call that is refused (by a code below 0 that is named, or by false) changes nothing");
        hence("after BAD or FULL all is as it was");
        changesNothing("add when full", true, FULL, x -> x.add(2, 5, 77));
        for (boolean whenFull : new boolean[] {true, false}) {
            changesNothing("add(-1, 0, 7)", whenFull, BAD, x -> x.add(-1, 0, 7));
            changesNothing("add(0, 8, 7)", whenFull, BAD, x -> x.add(0, 8, 7));
            changesNothing("add(5, 5, 7)", whenFull, BAD, x -> x.add(5, 5, 7));
            changesNothing("add(0, 1, -1)", whenFull, BAD, x -> x.add(0, 1, -1));
            changesNothing("add(0, 1, 100)", whenFull, BAD, x -> x.add(0, 1, 100));
            changesNothing("remove(-1)", whenFull, BAD, x -> x.remove(-1));
            changesNothing("remove(20)", whenFull, BAD, x -> x.remove(20));
            changesNothing("remove(32)", whenFull, BAD, x -> x.remove(32));
            changesNothing("change(-1, 7)", whenFull, BAD, x -> x.change(-1, 7));
            changesNothing("change(20, 7)", whenFull, BAD, x -> x.change(20, 7));
            changesNothing("change(32, 7)", whenFull, BAD, x -> x.change(32, 7));
            changesNothing("change(0, -1)", whenFull, BAD, x -> x.change(0, -1));
            changesNothing("change(19, 100)", whenFull, BAD, x -> x.change(19, 100));
            changesNothing("value(7, 0, 1)", whenFull, BAD, x -> x.value(7, 0, 1));
            changesNothing("value(0, 0, 8)", whenFull, BAD, x -> x.value(0, 0, 8));
            changesNothing("least(0, 0)", whenFull, BAD, x -> x.least(0, 0));
            changesNothing("most(0, 0)", whenFull, BAD, x -> x.most(0, 0));
            changesNothing("tight(0, 8)", whenFull, BAD, x -> x.tight(0, 8));
            changesNothing("widening(-1, 0)", whenFull, BAD, x -> x.widening(-1, 0));
            changesNothing("apart(8, 0)", whenFull, BAD, x -> x.apart(8, 0));
            changesNothing("separate(3, 3)", whenFull, BAD, x -> x.separate(3, 3));
            changesNothing("throttled(0, 1, 100)", whenFull, BAD, x -> x.throttled(0, 1, 100));
            changesNothing("throttled(1, 1, 5)", whenFull, BAD, x -> x.throttled(1, 1, 5));
            changesNothing("fewest(0, -1)", whenFull, BAD, x -> x.fewest(0, -1));
        }
        changesNothing("remove(3), which is gone", false, BAD, x -> x.remove(3));
        changesNothing("change(17, 7), which is gone", false, BAD, x -> x.change(17, 7));
    }

    private static void refusedByFalse() {
        says("Promise 17", "a call that is refused (by a code below 0 that is named, or by false) changes nothing");
        hence("after false all is as it was");
        for (boolean whenFull : new boolean[] {true, false}) {
            changesNothing("agree(7, 0, 0, 1)", whenFull, 0, x -> x.agree(7, 0, 0, 1) ? 1 : 0);
            changesNothing("agree(0, -1, 0, 1)", whenFull, 0, x -> x.agree(0, -1, 0, 1) ? 1 : 0);
            changesNothing("agree(0, 1, 4, 4)", whenFull, 0, x -> x.agree(0, 1, 4, 4) ? 1 : 0);
            changesNothing("agree(0, 1, 8, 4)", whenFull, 0, x -> x.agree(0, 1, 8, 4) ? 1 : 0);
        }
    }

    private static void questionsChangeNothing() {
        says("Not promised", "Nothing is promised beyond the answers and state changes described above");
        hence("a question changes nothing");
        for (boolean whenFull : new boolean[] {true, false}) {
            FlowSuite told = whenFull ? full() : gapped();
            changesNothing("arcs()", whenFull, told.arcs(), FlowSuite::arcs);
            for (int engine = 0; engine < 7; engine++) {
                int used = engine;
                changesNothing("value", whenFull, told.value(0, 2, 6), x -> x.value(used, 2, 6));
                changesNothing("agree", whenFull, 1, x -> x.agree(used, 6 - used, 2, 6) ? 1 : 0);
            }
            changesNothing("least(2, 6)", whenFull, told.least(2, 6), x -> x.least(2, 6));
            changesNothing("most(2, 6)", whenFull, told.most(2, 6), x -> x.most(2, 6));
            changesNothing("tight(2, 6)", whenFull, told.tight(2, 6), x -> x.tight(2, 6));
            changesNothing("widening(2, 6)", whenFull, told.widening(2, 6), x -> x.widening(2, 6));
            changesNothing("apart(2, 6)", whenFull, told.apart(2, 6), x -> x.apart(2, 6));
            changesNothing("separate(2, 6)", whenFull, told.separate(2, 6), x -> x.separate(2, 6));
            changesNothing("weakest()", whenFull, told.weakest(), FlowSuite::weakest);
            changesNothing("throttled(2, 6, 5)", whenFull, told.throttled(2, 6, 5), x -> x.throttled(2, 6, 5));
            changesNothing("fewest(2, 6)", whenFull, told.fewest(2, 6), x -> x.fewest(2, 6));
        }
    }

    /** A test that throws fails under its sentence, and the others still run. */
    private static void run(Runnable... tests) {
        for (Runnable test : tests) {
            try {
                test.run();
            } catch (RuntimeException thrown) {
                wrong++;
                System.out.println(sentence + ": threw " + thrown);
            }
        }
    }

    public static void main(String[] args) {
        run(BoundariesTest::calls512, BoundariesTest::addsAndRemoves512, BoundariesTest::callsAfter512);
        run(BoundariesTest::points, BoundariesTest::twentyArcs, BoundariesTest::roomsInTerms,
                BoundariesTest::severalArcs, BoundariesTest::flows, BoundariesTest::sidesInTerms,
                BoundariesTest::engines);
        run(BoundariesTest::newObject);
        run(BoundariesTest::addNumbers, BoundariesTest::addRefusals, BoundariesTest::addWhenFull);
        run(BoundariesTest::remove, BoundariesTest::change, BoundariesTest::arcs);
        run(BoundariesTest::value, BoundariesTest::agree);
        run(BoundariesTest::least, BoundariesTest::most, BoundariesTest::tight, BoundariesTest::widening);
        run(BoundariesTest::apart, BoundariesTest::separate);
        run(BoundariesTest::weakest, BoundariesTest::weakestBySidesOfOnePoint);
        run(BoundariesTest::throttled, BoundariesTest::fewest);
        run(BoundariesTest::refusedByCode, BoundariesTest::refusedByFalse, BoundariesTest::questionsChangeNothing);
        System.out.println(wrong == 0 ? "all answers are as due" : wrong + " answers are not as due");
        if (wrong != 0) {
            System.exit(1);
        }
    }
}
