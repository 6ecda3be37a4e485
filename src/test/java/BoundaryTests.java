import java.util.ArrayList;
import java.util.List;
import java.util.function.ToLongFunction;

/**
 * For each sentence of the document that names a boundary case, a test of its
 * own: the last value inside, the first one outside on either side, and, where
 * a call is refused, that later calls answer as if it had not been made.
 *
 * The answers are written here as numbers, as the document has them, so that a
 * constant of the class that is changed shows too.
 */
public final class BoundaryTests {
    private static final int BAD_LABEL = -1;
    private static final int BAD_NODE = -2;
    private static final int FULL = -3;
    private static final int STACK_LOW = -4;
    private static final int NO_PATH = -5;
    private static final int NO = 0;
    private static final int YES = 1;

    private static final int MOST_CALLS = 512;
    private static final int MIN = Integer.MIN_VALUE;
    private static final int MAX = Integer.MAX_VALUE;

    // The first ones outside on either side come first. The others would fall
    // inside again if they were cut to fewer bits, shifted or multiplied.
    private static final int[] OUTSIDE_LABELS = {-1, 3, -2, 4, 64, 256, 65536, 1 << 26, MIN, MAX};
    private static final int[] OUTSIDE_ENDS = {-1, 64, -64, -65, 65, 127, 128, 192, 256, 65536, MIN, MAX};
    private static final int[] OUTSIDE_AT = {-2, 8, -3, 9, 31, 32, 255, 256, 65535, 65536, MIN, MAX};
    private static final int[] OUTSIDE_NODES = {-1, 8, -8, 9, 16, 32, 64, 256, 65536, 1 << 29, MIN, MAX};

    private static String sentence = "";
    private static int wrong = 0;

    /** A call that can be made on any object; a boolean answer counts 1 or 0, none counts 0. */
    private record Call(String text, ToLongFunction<PathAlgebra> made) { }

    /** An object and the number of its calls, for nothing is promised after the 512th. */
    private static final class Subject {
        private final PathAlgebra x = new PathAlgebra();
        private int calls = 0;

        private long make(Call call) {
            calls++;
            if (calls > MOST_CALLS) {
                throw new IllegalStateException("this test makes more calls than an object is used for: " + sentence);
            }
            return call.made().applyAsLong(x);
        }
    }

    // The calls.

    private static Call edge(int label, int ends, boolean there) {
        return new Call("edge(" + label + ", " + ends + ", " + there + ")", x -> x.edge(label, ends, there));
    }

    private static Call label(int label) {
        return new Call("label(" + label + ")", x -> x.label(label));
    }

    private static Call back(int label) {
        return new Call("back(" + label + ")", x -> x.back(label));
    }

    private static Call at(int n) {
        return new Call("at(" + n + ")", x -> x.at(n));
    }

    private static Call then() {
        return new Call("then()", x -> x.then());
    }

    private static Call or() {
        return new Call("or()", x -> x.or());
    }

    private static Call star() {
        return new Call("star()", x -> x.star());
    }

    private static Call clear() {
        return new Call("clear()", x -> {
            x.clear();
            return 0;
        });
    }

    private static Call leads(int a, int b) {
        return new Call("leads(" + a + ", " + b + ")", x -> x.leads(a, b) ? YES : NO);
    }

    private static Call shortest(int a, int b) {
        return new Call("shortest(" + a + ", " + b + ")", x -> x.shortest(a, b));
    }

    private static Call reach(int a) {
        return new Call("reach(" + a + ")", x -> x.reach(a));
    }

    private static Call pairs() {
        return new Call("pairs()", x -> x.pairs());
    }

    private static Call loops() {
        return new Call("loops()", x -> x.loops());
    }

    private static Call widest() {
        return new Call("widest()", x -> x.widest());
    }

    private static Call steps() {
        return new Call("steps()", x -> x.steps());
    }

    // What the tests are put together from.

    private static int ends(int from, int to) {
        return from + 8 * to;
    }

    private static Subject after(List<Call> calls) {
        Subject x = new Subject();
        for (Call call : calls) {
            x.make(call);
        }
        return x;
    }

    private static Subject after(Call... calls) {
        return after(List.of(calls));
    }

    private static List<Call> join(List<Call> first, List<Call> more) {
        List<Call> all = new ArrayList<>(first);
        all.addAll(more);
        return all;
    }

    private static List<Call> join(List<Call> first, Call... more) {
        return join(first, List.of(more));
    }

    private static List<Call> times(int count, Call call) {
        List<Call> all = new ArrayList<>();
        for (int i = 0; i < count; i++) {
            all.add(call);
        }
        return all;
    }

    private static void due(String where, long got, long want) {
        if (got != want) {
            wrong++;
            if (wrong <= 40) {
                System.out.println(sentence + ": " + where + " answered " + got + ", due is " + want);
            }
        }
    }

    private static void due(Subject x, Call call, long want) {
        long got = x.make(call);
        due("call " + x.calls + ", " + call.text(), got, want);
    }

    /** Eight nodes with ways that differ from each other, and something for each label. */
    private static List<Call> graph() {
        int[][] edges = {
            {0, 0, 1}, {0, 1, 2}, {0, 2, 3}, {0, 3, 3}, {0, 5, 6}, {0, 7, 4},
            {1, 3, 0}, {1, 2, 6}, {1, 6, 7}, {1, 7, 7},
            {2, 5, 5}, {2, 4, 2}, {2, 7, 0}, {2, 1, 4}, {2, 0, 7}, {2, 7, 7}};
        List<Call> calls = new ArrayList<>();
        for (int[] e : edges) {
            calls.add(edge(e[0], ends(e[1], e[2]), true));
        }
        return calls;
    }

    /** Label 0 leads round all nodes: 0 to 1 and so on, 7 to 0. */
    private static List<Call> ring() {
        List<Call> calls = new ArrayList<>();
        for (int n = 0; n < 8; n++) {
            calls.add(edge(0, ends(n, (n + 1) % 8), true));
        }
        return calls;
    }

    private static List<Call> allEdges() {
        List<Call> calls = new ArrayList<>();
        for (int label = 0; label < 3; label++) {
            for (int ends = 0; ends < 64; ends++) {
                calls.add(edge(label, ends, true));
            }
        }
        return calls;
    }

    /** The first expressions of a stack in which no two are alike. */
    private static List<Call> stackOf(int size) {
        return List.of(label(0), back(1), at(5), label(2), back(0), label(1)).subList(0, size);
    }

    /** Steps that leave a stack of that size; those above its size are stars. */
    private static List<Call> starred(int stepsMade, int size) {
        List<Call> calls = new ArrayList<>(stackOf(size));
        calls.addAll(times(stepsMade - size, star()));
        return calls;
    }

    /** Steps that leave a stack of that size; those above its size go up and down, as far as they can. */
    private static List<Call> merged(int stepsMade, int size) {
        List<Call> calls = new ArrayList<>(stackOf(size));
        int more = stepsMade - size;
        for (; more >= 2; more -= 2) {
            if (size < 6) {
                calls.addAll(List.of(label(1), or()));
            } else {
                calls.addAll(List.of(or(), back(2)));
            }
        }
        calls.addAll(times(more, star()));
        return calls;
    }

    private static List<Call> allQuestions() {
        List<Call> calls = new ArrayList<>();
        for (int a = 0; a < 8; a++) {
            for (int b = 0; b < 8; b++) {
                calls.add(leads(a, b));
                calls.add(shortest(a, b));
            }
            calls.add(reach(a));
        }
        calls.addAll(List.of(pairs(), loops(), widest(), steps()));
        return calls;
    }

    private static List<Call> allLengths() {
        List<Call> calls = new ArrayList<>();
        for (int a = 0; a < 8; a++) {
            for (int b = 0; b < 8; b++) {
                calls.add(shortest(a, b));
            }
        }
        return calls;
    }

    private static List<Call> unwinding(Call step) {
        List<Call> calls = new ArrayList<>();
        for (int i = 0; i < 5; i++) {
            calls.add(step);
            calls.addAll(allLengths());
        }
        calls.addAll(List.of(step, steps()));
        return calls;
    }

    private static List<Call> fillingUp(Call step) {
        List<Call> calls = times(15, step);
        calls.addAll(List.of(steps(), pairs(), widest()));
        return calls;
    }

    private static List<Call> takingEdgesAway() {
        List<Call> calls = new ArrayList<>();
        for (int label = 0; label < 3; label++) {
            for (int ends = 0; ends < 64; ends++) {
                calls.add(edge(label, ends, false));
            }
        }
        calls.addAll(List.of(pairs(), widest(), steps()));
        return calls;
    }

    private static List<Call> clearing() {
        List<Call> calls = new ArrayList<>(List.of(clear(), steps(), pairs(), star()));
        for (int label = 0; label < 3; label++) {
            calls.add(label(label));
            calls.addAll(allLengths());
        }
        calls.addAll(fillingUp(star()));
        return calls;
    }

    /** Ways to go on that together show all that an object can answer. */
    private static List<List<Call>> waysOn() {
        return List.of(allQuestions(), unwinding(or()), unwinding(then()), fillingUp(label(0)),
                fillingUp(star()), takingEdgesAway(), clearing());
    }

    /** As good as waysOn where there are too many objects to go all of them. */
    private static List<Call> shortWayOn() {
        List<Call> calls = new ArrayList<>(List.of(steps(), widest(), loops()));
        for (int a = 0; a < 8; a++) {
            calls.add(reach(a));
        }
        for (int i = 0; i < 6; i++) {
            calls.addAll(List.of(or(), pairs(), widest(), reach(1), reach(6)));
        }
        calls.addAll(times(14, label(0)));
        calls.add(steps());
        return calls;
    }

    /** The calls 'between' are made on one of two objects; what later calls answer must not tell which. */
    private static void sameLater(List<Call> before, List<Call> between, List<Call> later) {
        Subject x = after(before);
        Subject twin = after(before);
        for (Call call : between) {
            x.make(call);
        }
        for (Call call : later) {
            due(x, call, twin.make(call));
        }
    }

    private static void sameLater(List<Call> before, List<Call> between) {
        for (List<Call> later : waysOn()) {
            sameLater(before, between, later);
        }
    }

    /** The call is refused with the answer, and once or often makes no difference later. */
    private static void refused(List<Call> before, Call call, long answer) {
        Subject x = after(before);
        for (int i = 0; i < 20; i++) {
            due(x, call, answer);
        }
        sameLater(before, List.of(call));
        sameLater(before, times(20, call));
        sameLater(join(allEdges(), before), List.of(call), takingEdgesAway());
    }

    /** Both ways to make steps leave the same paths on top. */
    private static void sameTop(List<Call> one, List<Call> other) {
        Subject x = after(join(graph(), one));
        Subject y = after(join(graph(), other));
        for (Call call : allLengths()) {
            due(x, call, y.make(call));
        }
        for (Call call : List.of(pairs(), loops(), widest())) {
            due(x, call, y.make(call));
        }
    }

    private static void dueNoPaths(Subject x) {
        for (int a = 0; a < 8; a++) {
            for (int b = 0; b < 8; b++) {
                due(x, leads(a, b), NO);
                due(x, shortest(a, b), NO_PATH);
            }
            due(x, reach(a), 0);
        }
        due(x, pairs(), 0);
        due(x, loops(), 0);
        due(x, widest(), NO_PATH);
    }

    /** The only path is one of that length between these two nodes. */
    private static void dueOnePair(Subject x, int from, int to, int length) {
        for (int a = 0; a < 8; a++) {
            for (int b = 0; b < 8; b++) {
                boolean here = a == from && b == to;
                due(x, leads(a, b), here ? YES : NO);
                due(x, shortest(a, b), here ? length : NO_PATH);
            }
            due(x, reach(a), a == from ? 1 << to : 0);
        }
        due(x, pairs(), 1);
        due(x, loops(), from == to ? 1 << from : 0);
        due(x, widest(), length);
    }

    /** Each node leads to itself by length 0, and nowhere else. */
    private static void dueEmptyPaths(Subject x) {
        for (int a = 0; a < 8; a++) {
            for (int b = 0; b < 8; b++) {
                due(x, leads(a, b), a == b ? YES : NO);
                due(x, shortest(a, b), a == b ? 0 : NO_PATH);
            }
            due(x, reach(a), 1 << a);
        }
        due(x, pairs(), 8);
        due(x, loops(), 255);
        due(x, widest(), 0);
    }

    // "What it is" and "The public face".

    private static void the512thCall() {
        sentence = "What it is: used for at most 512 calls";
        List<Call> expression = List.of(clear(), label(0), star(), label(1), then());
        List<List<Call>> ways = List.of(
                List.of(steps()), List.of(pairs()), List.of(shortest(8, 0)), List.of(clear()),
                List.of(edge(0, 9, true)), List.of(edge(3, 0, true)), List.of(label(1)), List.of(star()),
                List.of(then()), List.of(label(0), label(2), or(), clear()), allQuestions());
        for (List<Call> way : ways) {
            Subject x = after(graph());
            for (int i = 0; x.calls < MOST_CALLS - expression.size() - 1; i++) {
                x.make(way.get(i % way.size()));
            }
            for (Call call : expression) {
                x.make(call);
            }
            due(x, shortest(0, 0), 4);
            due("the calls made", x.calls, MOST_CALLS);
        }
        Subject last = after(times(MOST_CALLS - 1, edge(0, 0, true)));
        due(last, edge(0, 0, true), 1);
        last = after(times(MOST_CALLS - 1, clear()));
        due(last, label(0), 1);
        last = after(join(times(MOST_CALLS - 2, star()), label(0)));
        due(last, steps(), 1);
    }

    private static void eachCallAsThe512th() {
        sentence = "What it is: used for at most 512 calls, each call as the last one";
        List<Call> calls = List.of(edge(0, ends(0, 1), false), edge(3, 0, true), edge(0, 64, true), label(0), label(3),
                back(0), back(3), at(0), at(-1), at(8), then(), or(), star(), leads(0, 1), leads(0, 8), shortest(0, 1),
                shortest(0, 8), reach(0), reach(8), pairs(), loops(), widest(), steps());
        long[] answers = {1, BAD_LABEL, BAD_NODE, 3, BAD_LABEL,
            3, BAD_LABEL, 3, 3, BAD_NODE, 1, 1, 2, YES, NO, 1,
            BAD_NODE, 2, BAD_NODE, 6, 8, 1, 2};
        List<Call> end = List.of(clear(), back(1), label(0));
        for (Call filling : List.of(steps(), widest(), clear(), edge(0, ends(0, 1), true), label(1), star())) {
            for (int i = 0; i < answers.length; i++) {
                Subject x = after(graph());
                while (x.calls < MOST_CALLS - 1 - end.size()) {
                    x.make(filling);
                }
                for (Call call : end) {
                    x.make(call);
                }
                due(x, calls.get(i), answers[i]);
                due("the calls made", x.calls, MOST_CALLS);
            }
        }
        // A clear cannot be seen as the last call of all, but as the last but one.
        Subject x = after(join(times(MOST_CALLS - 3, star()), label(0)));
        due(x, clear(), 0);
        due(x, steps(), 0);
        due("the calls made", x.calls, MOST_CALLS);
    }

    private static void theConstants() {
        sentence = "The public face: the constants";
        due("BAD_LABEL", PathAlgebra.BAD_LABEL, BAD_LABEL);
        due("BAD_NODE", PathAlgebra.BAD_NODE, BAD_NODE);
        due("FULL", PathAlgebra.FULL, FULL);
        due("STACK_LOW", PathAlgebra.STACK_LOW, STACK_LOW);
        due("NO_PATH", PathAlgebra.NO_PATH, NO_PATH);
    }

    // "Terms": the graph and the paths.

    private static void eachEdgeByItself() {
        sentence = "Terms: for each label and each pair of nodes (also the same one twice) an edge or none";
        for (int label = 0; label < 3; label++) {
            for (int ends = 0; ends < 64; ends++) {
                Subject x = after(edge(label, ends, true), label(label));
                dueOnePair(x, ends % 8, ends / 8, 1);
                for (int other = 0; other < 3; other++) {
                    if (other != label) {
                        due(x, label(other), 2);
                        due(x, pairs(), 0);
                        due(x, then(), 1);
                        due(x, clear(), 0);
                        due(x, label(label), 1);
                    }
                }
            }
        }
    }

    private static void eachEdgeMissing() {
        sentence = "Terms: for each label and each pair of nodes an edge or none, all but one";
        for (int label = 0; label < 3; label++) {
            for (int ends = 0; ends < 64; ends++) {
                Subject x = after(allEdges());
                due(x, edge(label, ends, false), 1);
                due(x, label(label), 1);
                due(x, pairs(), 63);
                due(x, leads(ends % 8, ends / 8), NO);
                due(x, reach(ends % 8), 255 - (1 << ends / 8));
                due(x, loops(), ends % 9 == 0 ? 255 - (1 << ends / 9) : 255);
                due(x, label((label + 1) % 3), 2);
                due(x, pairs(), 64);
                due(x, label((label + 2) % 3), 3);
                due(x, pairs(), 64);
            }
        }
    }

    private static void eachEdgeBackwards() {
        sentence = "Terms: or, taken BACKWARDS, the other way round";
        for (int label = 0; label < 3; label++) {
            for (int ends = 0; ends < 64; ends++) {
                dueOnePair(after(edge(label, ends, true), back(label)), ends / 8, ends % 8, 1);
            }
        }
    }

    private static void lengths() {
        sentence = "Terms: its LENGTH is its number of edges";
        due(after(at(3)), shortest(3, 3), 0);
        due(after(edge(1, ends(3, 3), true), label(1)), shortest(3, 3), 1);
        due(after(edge(1, ends(3, 4), true), back(1)), shortest(4, 3), 1);
        due(after(edge(1, ends(3, 4), true), label(1), at(4), then(), at(-1), then()), shortest(3, 4), 1);
        due(after(edge(1, ends(3, 4), true), label(1), back(1), then()), shortest(3, 3), 2);
        due(after(join(ring(), label(0), star())), shortest(1, 0), 7);
        // Fourteen steps are enough for a star of paths of seven edges each, and from node to
        // node round the ring it takes up to seven of these.
        List<Call> sevens = ring();
        sevens.addAll(times(5, label(0)));
        sevens.addAll(times(4, then()));
        sevens.addAll(List.of(label(0), then(), label(0), then(), star()));
        Subject x = after(sevens);
        due(x, steps(), 14);
        for (int a = 0; a < 8; a++) {
            for (int b = 0; b < 8; b++) {
                due(x, shortest(a, b), 7 * ((a - b + 8) % 8));
            }
        }
        due(x, widest(), 49);
        due(x, pairs(), 64);
    }

    // "Terms": the stack and its steps.

    private static void atMostSix() {
        sentence = "Terms: on a stack of at most six";
        for (Call step : List.of(label(2), back(2), at(7), at(-1))) {
            Subject x = after(graph());
            for (int size = 1; size <= 6; size++) {
                due(x, step, size);
            }
            due(x, step, FULL);
            due(x, steps(), 6);
        }
        // Each of the six is still there: one after the other comes to the top.
        Subject x = after(at(0), at(1), at(2), at(3), at(4), at(5), at(6));
        int mask = 1 << 5;
        due(x, loops(), mask);
        for (int n = 4; n >= 0; n--) {
            due(x, or(), n + 1);
            mask |= 1 << n;
            due(x, loops(), mask);
        }
        due(x, or(), STACK_LOW);
    }

    private static void atMostFourteen() {
        sentence = "Terms: by at most fourteen steps since the last clear";
        for (int size = 1; size <= 6; size++) {
            for (int kind = 0; kind < 2; kind++) {
                List<Call> thirteen = kind == 0 ? starred(13, size) : merged(13, size);
                Subject x = after(thirteen);
                due(x, steps(), 13);
                due(x, star(), size);
                due(x, steps(), 14);
                due(x, star(), FULL);
                due(x, steps(), 14);
            }
        }
        for (Call step : List.of(label(2), back(2), at(7), at(-1))) {
            Subject x = after(starred(13, 5));
            due(x, step, 6);
            due(x, steps(), 14);
        }
        for (Call step : List.of(then(), or())) {
            Subject x = after(starred(13, 2));
            due(x, step, 1);
            due(x, steps(), 14);
        }
    }

    private static void sinceTheLastClear() {
        sentence = "Terms: fourteen steps since the last clear";
        for (int made = 0; made <= 14; made++) {
            Subject x = after(made == 0 ? List.of() : starred(made, 1));
            due(x, clear(), 0);
            due(x, steps(), 0);
            due(x, label(0), 1);
            for (int i = 2; i <= 14; i++) {
                due(x, star(), 1);
                due(x, steps(), i);
            }
            due(x, star(), FULL);
        }
    }

    private static void fullBySteps() {
        sentence = "Terms: Fourteen steps have been made since the last clear: FULL; nothing changes then";
        List<Call> all = List.of(label(0), label(2), back(0), back(2), at(-1), at(0), at(7), then(), or(), star());
        for (int size : new int[] {1, 2, 5, 6}) {
            for (Call call : all) {
                refused(join(graph(), starred(14, size)), call, FULL);
                refused(join(graph(), merged(14, size)), call, FULL);
            }
        }
    }

    private static void fullByTheStack() {
        sentence = "Terms: the stack has six expressions and the step takes none off: FULL; nothing changes then";
        List<Call> takingNone = List.of(label(0), label(2), back(0), back(2), at(-1), at(0), at(7));
        for (int made : new int[] {6, 13}) {
            for (Call call : takingNone) {
                refused(join(graph(), starred(made, 6)), call, FULL);
                due(after(starred(made, 5)), call, 6);
            }
        }
    }

    private static void sixAndTheStepTakesSomeOff() {
        sentence = "Terms: six expressions are no hindrance for a step that takes some off";
        for (int made = 6; made <= 13; made++) {
            due(after(starred(made, 6)), then(), 5);
            due(after(starred(made, 6)), or(), 5);
            due(after(starred(made, 6)), star(), 6);
        }
        Subject x = after(starred(6, 6));
        for (int i = 0; i < 4; i++) {
            due(x, label(0), FULL);
            due(x, i % 2 == 0 ? or() : then(), 5);
            due(x, label(0), 6);
        }
        due(x, steps(), 14);
    }

    private static void fullAheadOfStackLow() {
        sentence = "Terms: FULL; then, too few expressions on the stack: STACK_LOW";
        for (Call call : List.of(then(), or())) {
            refused(join(graph(), starred(13, 1)), call, STACK_LOW);
            refused(join(graph(), starred(14, 1)), call, FULL);
            refused(join(graph(), merged(14, 1)), call, FULL);
        }
    }

    private static void tooFewExpressions() {
        sentence = "Terms: too few expressions on the stack: STACK_LOW; nothing changes then";
        for (Call call : List.of(then(), or(), star())) {
            refused(List.of(), call, STACK_LOW);
            refused(graph(), call, STACK_LOW);
            refused(join(graph(), label(0), label(1), clear()), call, STACK_LOW);
        }
        for (Call call : List.of(then(), or())) {
            for (Call one : List.of(label(0), back(2), at(3), at(-1))) {
                refused(join(graph(), one), call, STACK_LOW);
            }
            refused(join(graph(), label(0), label(1), or()), call, STACK_LOW);
            due(after(label(0), label(1)), call, 1);
        }
        due(after(label(0)), star(), 1);
    }

    private static void howManyAreOnTheStack() {
        sentence = "Terms: Else they answer how many expressions are on the stack";
        Subject x = after(graph());
        Call[] up = {label(0), back(0), at(0), at(-1), label(2), back(2)};
        for (int i = 0; i < 6; i++) {
            due(x, up[i], i + 1);
        }
        for (int size = 5; size >= 1; size--) {
            due(x, size % 2 == 0 ? or() : then(), size);
        }
        due(x, star(), 1);
        due(x, at(7), 2);
        due(x, star(), 2);
        due(x, star(), FULL);
    }

    /** All steps, good and bad, after each number of steps and with each size of the stack. */
    private static void everyStateOfTheStack() {
        sentence = "Terms: THE STEPS, in every state of the stack";
        for (int made = 0; made <= 14; made++) {
            for (int size = made == 0 ? 0 : 1; size <= 6 && size <= made; size++) {
                for (int kind = 0; kind < 2; kind++) {
                    List<Call> before = graph();
                    before.addAll(kind == 0 ? starred(made, size) : merged(made, size));
                    everyStep(before, made, size);
                }
            }
        }
    }

    private static void everyStep(List<Call> before, int made, int size) {
        for (int n : new int[] {-3, -2, -1, 0, 2, 3, 7, 8, 9}) {
            boolean isLabel = n >= 0 && n <= 2;
            boolean isPlace = n >= -1 && n <= 7;
            oneStep(before, made, label(n), isLabel ? answer(made, size, 0) : BAD_LABEL);
            oneStep(before, made, back(n), isLabel ? answer(made, size, 0) : BAD_LABEL);
            oneStep(before, made, at(n), isPlace ? answer(made, size, 0) : BAD_NODE);
        }
        oneStep(before, made, then(), answer(made, size, 2));
        oneStep(before, made, or(), answer(made, size, 2));
        oneStep(before, made, star(), answer(made, size, 1));
    }

    private static long answer(int made, int size, int taken) {
        if (made == 14 || size == 6 && taken == 0) {
            return FULL;
        }
        return size < taken ? STACK_LOW : size - taken + 1;
    }

    private static void oneStep(List<Call> before, int made, Call call, long want) {
        Subject x = after(before);
        due(x, call, want);
        due(x, steps(), want < 0 ? made : made + 1);
        if (want < 0) {
            sameLater(before, List.of(call), shortWayOn());
        }
    }

    // "Terms": the calls that ask.

    private static List<Call> questionsGoodAndBad() {
        List<Call> calls = allQuestions();
        for (int n : OUTSIDE_NODES) {
            calls.addAll(List.of(leads(n, 0), leads(7, n), shortest(n, 7), shortest(0, n), reach(n)));
        }
        return calls;
    }

    private static void askingChangesNothing() {
        sentence = "Terms: The calls below change nothing that any call answers";
        List<List<Call>> states = List.of(
                List.of(), graph(), join(graph(), label(0), clear()),
                join(graph(), label(0)), join(graph(), starred(6, 6)),
                join(graph(), starred(13, 3)),
                join(graph(), merged(14, 6)));
        for (List<Call> state : states) {
            for (Call question : List.of(leads(0, 1), leads(8, 0), shortest(0, 1), shortest(0, 8), reach(0),
                    reach(-1), pairs(), loops(), widest(), steps())) {
                sameLater(state, List.of(question));
                sameLater(state, times(20, question));
            }
        }
        // All questions between one step and the next one: each answer as on an object not asked before.
        List<Call> stepwise = List.of(label(0), back(1), or(), star(), at(6), label(2), then(), then());
        List<Call> made = graph();
        for (Call step : stepwise) {
            made.add(step);
            sameLater(made, questionsGoodAndBad(), allQuestions());
        }
    }

    private static void aboutTheTop() {
        sentence = "Terms: They are about the expression on top of the stack";
        for (int top = 0; top < 8; top++) {
            for (int size = 1; size <= 6; size++) {
                List<Call> calls = ring();
                for (int i = 1; i < size; i++) {
                    calls.add(at(i % 2 == 0 ? -1 : 7 - top));
                }
                dueOnePair(after(join(calls, at(top))), top, top, 0);
            }
        }
        // No more than four lie below: the two that meet nowhere need room for both.
        for (int size = 1; size <= 4; size++) {
            List<Call> calls = join(graph(), stackOf(size));
            dueNoPaths(after(join(calls, at(0), at(1), then())));
        }
    }

    private static void eachExpressionAtEachHeight() {
        sentence = "Terms: the expression on top of the stack, at each height of it";
        List<List<Call>> tops = List.of(List.of(label(0)), List.of(label(2)), List.of(back(0)), List.of(back(2)),
                List.of(at(-1)), List.of(at(0)), List.of(at(7)), List.of(label(1), star()), List.of(at(-1), star()));
        for (List<Call> top : tops) {
            for (int below = 0; below < 6; below++) {
                sameTop(join(stackOf(below), top), top);
            }
        }
        List<List<Call>> topsOfTwo = List.of(List.of(label(0), label(1), then()), List.of(at(-1), back(2), then()),
                List.of(label(0), back(2), or()), List.of(label(2), at(-1), or()), List.of(at(7), at(-1), or()));
        for (List<Call> top : topsOfTwo) {
            for (int below = 0; below < 5; below++) {
                sameTop(join(stackOf(below), top), top);
            }
        }
    }

    private static void withAnEmptyStack() {
        sentence = "Terms: with an empty stack there are no paths";
        dueNoPaths(after());
        dueNoPaths(after(graph()));
        dueNoPaths(after(join(graph(), clear())));
        dueNoPaths(after(join(graph(), at(-1), clear())));
        dueNoPaths(after(join(graph(), join(starred(14, 6), clear()))));
        dueNoPaths(after(join(graph(), then(), or(), star(), label(3), back(-1), at(8))));
    }

    private static void nodesOutside() {
        sentence = "Terms: A node not in 0 to 7: BAD_NODE (false for booleans)";
        // Here a path leads between any two nodes, so that no answer is the due one by chance.
        List<Call> everywhere = join(ring(), label(0), star());
        List<List<Call>> states = List.of(List.of(), join(graph(), label(0), clear()), everywhere,
                join(graph(), at(0), at(1), then()), join(graph(), starred(14, 6)));
        for (List<Call> state : states) {
            for (int bad : OUTSIDE_NODES) {
                Subject x = after(state);
                for (int n = 0; n < 8; n++) {
                    due(x, leads(bad, n), NO);
                    due(x, leads(n, bad), NO);
                    due(x, shortest(bad, n), BAD_NODE);
                    due(x, shortest(n, bad), BAD_NODE);
                }
                for (int other : OUTSIDE_NODES) {
                    due(x, leads(bad, other), NO);
                    due(x, shortest(bad, other), BAD_NODE);
                }
                due(x, reach(bad), BAD_NODE);
            }
        }
        Subject x = after(everywhere);
        for (int a = 0; a < 8; a++) {
            for (int b = 0; b < 8; b++) {
                due(x, leads(a, b), YES);
                due(x, shortest(a, b), (b - a + 8) % 8);
            }
            due(x, reach(a), 255);
        }
    }

    // The promises.

    private static void promise1NoEdges() {
        sentence = "Promise 1: No edges";
        Subject x = after();
        for (int label = 0; label < 3; label++) {
            for (int ends = 0; ends < 64; ends++) {
                due(x, edge(label, ends, false), 0);
            }
        }
        for (int label = 0; label < 3; label++) {
            dueNoPaths(after(label(label)));
            dueNoPaths(after(back(label)));
        }
        Subject other = after();
        for (int i = 0; i < 192; i++) {
            x.make(edge(i / 64, i % 64, true));
        }
        due(other, label(0), 1);
        due(other, pairs(), 0);
        due(after(label(1)), pairs(), 0);
    }

    private static void promise1EmptyStack() {
        sentence = "Promise 1: the stack is empty";
        due(after(), steps(), 0);
        due(after(), star(), STACK_LOW);
        due(after(), or(), STACK_LOW);
        due(after(), then(), STACK_LOW);
        due(after(), label(0), 1);
        due(after(), back(0), 1);
        due(after(), at(0), 1);
        dueNoPaths(after());
        Subject x = after(starred(14, 6));
        due(after(), steps(), 0);
        due(x, steps(), 14);
    }

    private static void promise2Ends() {
        sentence = "Promise 2: 'ends' is the node it leads from and 8 times the node it leads to";
        int[][] known = {{0, 0, 0}, {1, 1, 0}, {7, 7, 0}, {8, 0, 1}, {9, 1, 1}, {56, 0, 7}, {62, 6, 7}, {63, 7, 7}};
        for (int[] k : known) {
            dueOnePair(after(edge(0, k[0], true), label(0)), k[1], k[2], 1);
        }
    }

    private static void promise2Labels() {
        sentence = "Promise 2: label not in 0 to 2: BAD_LABEL; nothing changes then";
        for (int bad : OUTSIDE_LABELS) {
            for (int ends : new int[] {0, 9, 63}) {
                // One of the two is a change of what stands at 'ends', whatever the label is taken for.
                refused(join(graph(), label(0)), edge(bad, ends, true), BAD_LABEL);
                refused(join(cornerEdges(), label(0)), edge(bad, ends, false), BAD_LABEL);
            }
        }
        for (int label = 0; label < 3; label++) {
            due(after(), edge(label, 0, true), 0);
            due(after(), edge(label, 63, true), 0);
        }
    }

    /** The edges that a label or ends just outside could be taken for, by counting on or back. */
    private static List<Call> cornerEdges() {
        List<Call> calls = new ArrayList<>();
        for (int label = 0; label < 3; label++) {
            for (int ends : new int[] {0, 1, 8, 9, 55, 62, 63}) {
                calls.add(edge(label, ends, true));
            }
        }
        return calls;
    }

    private static void promise2Nodes() {
        sentence = "Promise 2: ends not in 0 to 63: BAD_NODE; nothing changes then";
        for (int bad : OUTSIDE_ENDS) {
            for (int label = 0; label < 3; label++) {
                refused(join(graph(), label(label)), edge(label, bad, true), BAD_NODE);
                refused(join(cornerEdges(), label(label)), edge(label, bad, false), BAD_NODE);
            }
        }
        for (int label = 0; label < 3; label++) {
            for (int inside : new int[] {0, 1, 62, 63}) {
                Subject x = after();
                due(x, edge(label, inside, true), 0);
                due(x, edge(label, inside, true), 1);
            }
        }
    }

    private static void promise2WasThere() {
        sentence = "Promise 2: Else answers 1 if it was there, 0 if not";
        for (int label = 0; label < 3; label++) {
            for (int ends = 0; ends < 64; ends++) {
                Subject x = after();
                due(x, edge(label, ends, false), 0);
                due(x, edge(label, ends, false), 0);
                due(x, edge(label, ends, true), 0);
                due(x, edge(label, ends, true), 1);
                due(x, edge(label, ends, true), 1);
                due(x, edge(label, ends, false), 1);
                due(x, edge(label, ends, false), 0);
                due(x, edge(label, ends, true), 0);
                due(x, edge((label + 1) % 3, ends, true), 0);
                due(x, edge(label, (ends + 1) % 64, false), 0);
                due(x, edge(label, ends, false), 1);
            }
        }
        Subject x = after();
        for (int i = 0; i < 192; i++) {
            due(x, edge(i / 64, i % 64, true), 0);
        }
        for (int i = 0; i < 192; i++) {
            due(x, edge(i / 64, i % 64, i % 2 == 0), 1);
        }
        due(x, edge(2, 63, true), 0);
        due(x, edge(2, 62, true), 1);
    }

    private static void promise2IsNoStep() {
        sentence = "Promise 2: an edge is no step, and the stack does not hinder it";
        for (List<Call> state : List.of(starred(6, 6), starred(14, 1), merged(14, 6))) {
            Subject x = after(state);
            int made = state.size();
            due(x, edge(0, 63, true), 0);
            due(x, edge(2, 0, true), 0);
            due(x, edge(2, 0, false), 1);
            due(x, edge(3, 0, true), BAD_LABEL);
            due(x, edge(0, 64, true), BAD_NODE);
            due(x, steps(), made);
            due(x, clear(), 0);
            due(x, edge(0, 63, true), 1);
        }
    }

    /** States in which a good step is taken, refused for the stack, and refused for the steps. */
    private static List<List<Call>> roomAndNone() {
        return List.of(List.of(), join(graph(), label(1)), join(graph(), starred(6, 6)),
                join(graph(), starred(14, 1)), join(graph(), merged(14, 6)));
    }

    private static void promise3() {
        sentence = "Promise 3: label not in 0 to 2: BAD_LABEL, tested first";
        for (List<Call> state : roomAndNone()) {
            for (int bad : OUTSIDE_LABELS) {
                refused(state, label(bad), BAD_LABEL);
            }
        }
        for (int label = 0; label < 3; label++) {
            due(after(), label(label), 1);
        }
    }

    private static void promise4() {
        sentence = "Promise 4: label not in 0 to 2: BAD_LABEL, tested first";
        for (List<Call> state : roomAndNone()) {
            for (int bad : OUTSIDE_LABELS) {
                refused(state, back(bad), BAD_LABEL);
            }
        }
        for (int label = 0; label < 3; label++) {
            due(after(), back(label), 1);
        }
    }

    private static void promise5Places() {
        sentence = "Promise 5: AT, or EMPTY for n = -1";
        for (int n = 0; n < 8; n++) {
            dueOnePair(after(join(graph(), at(n))), n, n, 0);
        }
        dueEmptyPaths(after(at(-1)));
        dueEmptyPaths(after(join(graph(), at(-1))));
    }

    private static void promise5Nodes() {
        sentence = "Promise 5: n not in -1 to 7: BAD_NODE, tested first";
        for (List<Call> state : roomAndNone()) {
            for (int bad : OUTSIDE_AT) {
                refused(state, at(bad), BAD_NODE);
            }
        }
        for (int n = -1; n < 8; n++) {
            due(after(), at(n), 1);
        }
    }

    private static void promise6() {
        sentence = "Promise 6: THEN: every path of x followed by one of y that begins where it ends";
        for (int middle = 0; middle < 8; middle++) {
            for (int other = 0; other < 8; other++) {
                int from = (middle + 3) % 8;
                int to = (middle + 5) % 8;
                Subject x = after(edge(0, ends(from, middle), true), edge(1, ends(other, to), true),
                        label(0), label(1), then());
                if (other == middle) {
                    dueOnePair(x, from, to, 2);
                } else {
                    dueNoPaths(x);
                }
            }
        }
        dueNoPaths(after(join(graph(), label(0), at(0), at(1), then(), then())));
        dueNoPaths(after(join(graph(), at(0), at(1), then(), label(0), then())));
        sameTop(List.of(label(0), at(-1), then()), List.of(label(0)));
        sameTop(List.of(at(-1), label(0), then()), List.of(label(0)));
        Subject two = after(join(graph(), at(4), label(2), label(0), then()));
        due(two, reach(4), 1 << 3);
        due(two, then(), 1);
        dueOnePair(two, 4, 3, 2);
    }

    private static void promise7() {
        sentence = "Promise 7: OR: the paths of x and those of y";
        List<Call> none = List.of(at(0), at(1), then());
        sameTop(join(join(none, label(0)), or()), List.of(label(0)));
        sameTop(join(join(List.of(label(0)), none), or()), List.of(label(0)));
        sameTop(List.of(label(0), label(0), or()), List.of(label(0)));
        dueNoPaths(after(join(join(none, none), or())));
        for (int ends = 0; ends < 64; ends++) {
            dueOnePair(after(edge(0, ends, true), label(0), label(1), or()), ends % 8, ends / 8, 1);
            dueOnePair(after(edge(0, ends, true), label(1), label(0), or()), ends % 8, ends / 8, 1);
        }
        // Both have a path from 5 to 5: the shorter one counts, whichever side it is on.
        due(after(join(graph(), label(2), at(5), or())), shortest(5, 5), 0);
        due(after(join(graph(), at(5), label(2), or())), shortest(5, 5), 0);
        Subject x = after(join(graph(), at(7), at(0), or()));
        due(x, loops(), 129);
        due(x, pairs(), 2);
        x = after(join(ring(), label(0), star(), label(0), or()));
        due(x, shortest(0, 1), 1);
        due(x, shortest(0, 0), 0);
        due(x, shortest(0, 7), 7);
        x = after(join(ring(), label(0), label(0), star(), or()));
        due(x, shortest(0, 1), 1);
        due(x, shortest(0, 0), 0);
        due(x, shortest(0, 7), 7);
    }

    private static void promise8() {
        sentence = "Promise 8: STAR: any number of paths of x, one after the other, also none";
        for (int last = 0; last < 8; last++) {
            List<Call> chain = new ArrayList<>();
            for (int n = 0; n < last; n++) {
                chain.add(edge(0, ends(n, n + 1), true));
            }
            Subject x = after(join(chain, label(0), star()));
            due(x, shortest(0, last), last);
            due(x, widest(), last);
            due(x, pairs(), 8 + last * (last + 1) / 2);
            Subject down = after(join(chain, back(0), star()));
            due(down, shortest(last, 0), last);
            due(down, widest(), last);
        }
        // The way leads through the nodes out of their order, once through each of them.
        int[] order = {3, 7, 0, 5, 1, 6, 2, 4};
        List<Call> winding = new ArrayList<>();
        for (int i = 0; i < 7; i++) {
            winding.add(edge(2, ends(order[i], order[i + 1]), true));
        }
        Subject x = after(join(winding, label(2), star()));
        due(x, shortest(3, 4), 7);
        due(x, shortest(4, 3), NO_PATH);
        sameTop(List.of(label(0), star(), star()), List.of(label(0), star()));
        sameTop(List.of(at(-1), star()), List.of(at(-1)));
    }

    private static void promise9() {
        sentence = "Promise 9: Empties the stack";
        List<Call> fresh = graph();
        for (int made = 0; made <= 14; made++) {
            for (int size = made == 0 ? 0 : 1; size <= 6 && size <= made; size++) {
                List<Call> used = graph();
                used.addAll(starred(made, size));
                used.add(clear());
                for (List<Call> later : List.of(allQuestions(), shortWayOn(), takingEdgesAway(), fillingUp(at(3)))) {
                    Subject x = after(used);
                    Subject y = after(fresh);
                    for (Call call : later) {
                        due(x, call, y.make(call));
                    }
                }
            }
        }
        due(after(clear()), steps(), 0);
        due(after(clear(), clear()), label(0), 1);
        due(after(label(0), clear()), star(), STACK_LOW);
        due(after(label(0), label(0), clear()), or(), STACK_LOW);
        due(after(label(0), label(0), clear(), label(0)), then(), STACK_LOW);
        due(after(join(starred(6, 6), clear())), label(0), 1);
        due(after(edge(2, 63, true), clear()), edge(2, 63, true), 1);
        // The stack alone: all edges stay.
        Subject x = after(join(allEdges(), label(0), clear()));
        for (int i = 0; i < 192; i++) {
            due(x, edge(i / 64, i % 64, true), 1);
        }
    }

    private static void promise10() {
        sentence = "Promise 10: Whether some path of the expression leads from a to b";
        for (int ends = 0; ends < 64; ends++) {
            Subject x = after(edge(1, ends, true), label(1));
            due(x, leads(ends % 8, ends / 8), YES);
            due(x, leads(ends / 8, ends % 8), ends % 9 == 0 ? YES : NO);
        }
        due(after(at(0)), leads(0, 0), YES);
        due(after(at(7)), leads(7, 7), YES);
        due(after(at(7)), leads(7, 8), NO);
        due(after(at(0)), leads(0, -1), NO);
        due(after(at(0)), leads(-1, 0), NO);
        due(after(at(7)), leads(8, 7), NO);
    }

    private static void promise11() {
        sentence = "Promise 11: The least length of such a path; BAD_NODE; NO_PATH";
        due(after(at(0)), shortest(0, 0), 0);
        due(after(at(7)), shortest(7, 7), 0);
        due(after(at(0)), shortest(0, 7), NO_PATH);
        due(after(at(7)), shortest(7, 0), NO_PATH);
        // No path leads there either, so that both would fit.
        due(after(), shortest(8, 0), BAD_NODE);
        due(after(), shortest(0, 8), BAD_NODE);
        due(after(), shortest(-1, 0), BAD_NODE);
        due(after(), shortest(0, -1), BAD_NODE);
        due(after(label(0)), shortest(-1, 8), BAD_NODE);
        // Two ways lead from 0 to 4, of three edges and of two; the longer one is set first or last.
        List<Call> threeFirst = List.of(edge(0, ends(0, 1), true), edge(0, ends(1, 2), true), edge(0, ends(2, 4), true),
                edge(0, ends(0, 3), true), edge(0, ends(3, 4), true));
        due(after(join(threeFirst, label(0), star())), shortest(0, 4), 2);
        List<Call> threeLast = List.of(edge(0, ends(0, 1), true), edge(0, ends(1, 4), true), edge(0, ends(0, 2), true),
                edge(0, ends(2, 3), true), edge(0, ends(3, 4), true));
        due(after(join(threeLast, label(0), star())), shortest(0, 4), 2);
    }

    private static void promise12() {
        sentence = "Promise 12: The nodes to which some path leads from a, as a mask; BAD_NODE";
        for (int a = 0; a < 8; a++) {
            Subject x = after(label(0));
            int mask = 0;
            due(x, reach(a), 0);
            for (int b = 7; b >= 0; b--) {
                due(x, edge(0, ends(a, b), true), 0);
                mask |= 1 << b;
                due(x, reach(a), mask);
                due(x, reach((a + 1) % 8), 0);
            }
            due(x, reach(a), 255);
        }
        due(after(at(7)), reach(7), 128);
        due(after(at(7)), reach(8), BAD_NODE);
        due(after(at(0)), reach(0), 1);
        due(after(at(0)), reach(-1), BAD_NODE);
        due(after(), reach(8), BAD_NODE);
        due(after(), reach(-1), BAD_NODE);
    }

    private static void promise13() {
        sentence = "Promise 13: How many pairs (a, b) of nodes some path leads from a to b";
        Subject x = after(label(2));
        due(x, pairs(), 0);
        for (int i = 0; i < 64; i++) {
            due(x, edge(2, i * 27 % 64, true), 0);
            due(x, pairs(), i + 1);
        }
        for (int i = 0; i < 64; i++) {
            due(x, edge(2, i * 27 % 64, false), 1);
            due(x, pairs(), 63 - i);
        }
        due(after(edge(0, ends(1, 2), true), edge(0, ends(2, 1), true), label(0)), pairs(), 2);
        due(after(edge(0, ends(1, 2), true), edge(1, ends(1, 2), true), label(0), label(1), or()), pairs(), 1);
        due(after(), pairs(), 0);
    }

    private static void promise14() {
        sentence = "Promise 14: The nodes n for which some path leads from n to n, as a mask";
        Subject x = after(label(1));
        int mask = 0;
        due(x, loops(), 0);
        for (int n = 7; n >= 0; n--) {
            due(x, edge(1, ends(n, n), true), 0);
            mask |= 1 << n;
            due(x, loops(), mask);
        }
        for (int ends = 0; ends < 64; ends++) {
            if (ends % 9 != 0) {
                due(x, edge(1, ends, true), 0);
                due(x, edge(2, ends, true), 0);
            }
        }
        due(x, loops(), 255);
        due(x, label(2), 2);
        due(x, loops(), 0);
        due(x, pairs(), 56);
        due(after(), loops(), 0);
        due(after(edge(0, 0, true), label(0)), loops(), 1);
        due(after(edge(0, 63, true), label(0)), loops(), 128);
    }

    private static void promise15Greatest() {
        sentence = "Promise 15: The greatest of the least lengths over all pairs that a path leads between";
        due(after(at(-1)), widest(), 0);
        due(after(at(0)), widest(), 0);
        due(after(at(7)), widest(), 0);
        for (int ends = 0; ends < 64; ends++) {
            due(after(edge(0, ends, true), at(-1), label(0), or()), widest(), ends % 9 == 0 ? 0 : 1);
            due(after(edge(0, ends, true), label(0)), widest(), 1);
        }
        due(after(join(ring(), label(0), star())), widest(), 7);
        // Back to where it began is a pair too, and here the one farthest off.
        Subject x = after(join(ring(), label(0), label(0), star(), then()));
        due(x, widest(), 8);
        due(x, shortest(7, 7), 8);
        due(x, loops(), 255);
        Subject both = after(join(ring(), label(0), back(0), or(), star()));
        due(both, widest(), 4);
        due(both, shortest(0, 7), 1);
    }

    private static void promise15None() {
        sentence = "Promise 15: NO_PATH if there are none";
        due(after(), widest(), NO_PATH);
        due(after(graph()), widest(), NO_PATH);
        due(after(label(0)), widest(), NO_PATH);
        due(after(back(2)), widest(), NO_PATH);
        due(after(at(0), at(1), then()), widest(), NO_PATH);
        due(after(edge(0, 0, true), edge(0, 0, false), label(0)), widest(), NO_PATH);
        due(after(edge(0, 0, true), label(1)), widest(), NO_PATH);
        due(after(join(graph(), label(0), clear())), widest(), NO_PATH);
    }

    private static void promise16() {
        sentence = "Promise 16: How many steps have been made since the last clear";
        Call[] fourteen = {label(0), back(0), at(0), at(-1), label(2), back(2), or(), then(), star(), at(7),
            or(), star(), then(), or()};
        Subject x = after(graph());
        for (int round = 0; round < 3; round++) {
            due(x, steps(), 0);
            for (int i = 0; i < 14; i++) {
                x.make(fourteen[i]);
                due(x, steps(), i + 1);
                for (Call noStep : List.of(pairs(), reach(8), label(3), back(-1), at(-2), edge(0, 9, true))) {
                    x.make(noStep);
                }
                due(x, steps(), i + 1);
            }
            x.make(star());
            due(x, steps(), 14);
            x.make(clear());
        }
        due(x, steps(), 0);
    }

    private static void promise17Order() {
        sentence = "Promise 17: edge: BAD_LABEL is tested before BAD_NODE";
        for (int badLabel : OUTSIDE_LABELS) {
            for (int badEnds : OUTSIDE_ENDS) {
                due(after(), edge(badLabel, badEnds, true), BAD_LABEL);
                due(after(), edge(badLabel, badEnds, false), BAD_LABEL);
                sameLater(graph(), List.of(edge(badLabel, badEnds, true)), takingEdgesAway());
            }
        }
        refused(join(graph(), label(0)), edge(3, 64, true), BAD_LABEL);
        refused(join(graph(), label(0)), edge(-1, -1, true), BAD_LABEL);
        refused(join(graph(), label(0)), edge(3, -1, false), BAD_LABEL);
        refused(join(graph(), label(0)), edge(-1, 64, false), BAD_LABEL);
        due(after(), edge(2, 64, true), BAD_NODE);
        due(after(), edge(0, -1, true), BAD_NODE);
        due(after(), edge(3, 63, true), BAD_LABEL);
        due(after(), edge(-1, 0, true), BAD_LABEL);
    }

    private static void promise17Star() {
        sentence = "Promise 17: star: with no path of x taken: every node leads to itself";
        dueEmptyPaths(after(label(0), star()));
        dueEmptyPaths(after(back(2), star()));
        dueEmptyPaths(after(join(graph(), at(0), at(1), then(), star())));
        for (int n = -1; n < 8; n++) {
            dueEmptyPaths(after(join(graph(), at(n), star())));
        }
        for (int n = 0; n < 8; n++) {
            dueEmptyPaths(after(edge(0, ends(n, n), true), label(0), star()));
        }
        Subject x = after(join(ring(), label(0), star()));
        for (int n = 0; n < 8; n++) {
            due(x, shortest(n, n), 0);
        }
        due(x, loops(), 255);
    }

    public static void main(String[] args) {
        theConstants();
        the512thCall();
        eachCallAsThe512th();
        eachEdgeByItself();
        eachEdgeMissing();
        eachEdgeBackwards();
        lengths();
        atMostSix();
        atMostFourteen();
        sinceTheLastClear();
        fullBySteps();
        fullByTheStack();
        sixAndTheStepTakesSomeOff();
        fullAheadOfStackLow();
        tooFewExpressions();
        howManyAreOnTheStack();
        everyStateOfTheStack();
        askingChangesNothing();
        aboutTheTop();
        eachExpressionAtEachHeight();
        withAnEmptyStack();
        nodesOutside();
        promise1NoEdges();
        promise1EmptyStack();
        promise2Ends();
        promise2Labels();
        promise2Nodes();
        promise2WasThere();
        promise2IsNoStep();
        promise3();
        promise4();
        promise5Places();
        promise5Nodes();
        promise6();
        promise7();
        promise8();
        promise9();
        promise10();
        promise11();
        promise12();
        promise13();
        promise14();
        promise15Greatest();
        promise15None();
        promise16();
        promise17Order();
        promise17Star();
        System.out.println(wrong == 0 ? "all answers are as due" : wrong + " answers are not as due");
        if (wrong != 0) {
            System.exit(1);
        }
    }
}
