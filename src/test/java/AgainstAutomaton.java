import java.util.ArrayDeque;
import java.util.ArrayList;
import java.util.Arrays;
import java.util.List;
import java.util.Random;

/**
 * Long runs of mixed calls, good and bad, compared with a second way to answer
 * them: the expression is made into an automaton, and the paths are searched
 * one edge at a time through pairs of a state and a node.
 */
public final class AgainstAutomaton {
    private static final int RUNS = 3000;
    private static final int CALLS = 512;
    private static final int[] WILD = {-2, -9, 8, 9, 64, 71, Integer.MIN_VALUE, Integer.MAX_VALUE};

    private static int wrong = 0;

    /** An expression as a tree. */
    private record Expression(char kind, int argument, Expression x, Expression y) { }

    /** An arc between states: 'l' and 'b' need an edge, 'a' a node (-1: any) and no edge. */
    private record Arc(int from, int to, char kind, int argument) { }

    private final boolean[][][] edges = new boolean[3][8][8];
    private final ArrayList<Expression> stack = new ArrayList<>();
    private int steps = 0;

    private final List<Arc> arcs = new ArrayList<>();
    private int states;
    private int[][] least = new int[8][8];

    private int edge(int label, int ends, boolean there) {
        if (label < 0 || label > 2) {
            return -1;
        }
        if (ends < 0 || ends > 63) {
            return -2;
        }
        boolean was = edges[label][ends % 8][ends / 8];
        edges[label][ends % 8][ends / 8] = there;
        return was ? 1 : 0;
    }

    private int step(char kind, int argument) {
        if ((kind == 'l' || kind == 'b') && (argument < 0 || argument > 2)) {
            return -1;
        }
        if (kind == 'a' && (argument < -1 || argument > 7)) {
            return -2;
        }
        int taken = kind == 't' || kind == 'o' ? 2 : kind == 's' ? 1 : 0;
        if (steps == 14 || stack.size() == 6 && taken == 0) {
            return -3;
        }
        if (stack.size() < taken) {
            return -4;
        }
        Expression y = taken == 2 ? stack.remove(stack.size() - 1) : null;
        Expression x = taken >= 1 ? stack.remove(stack.size() - 1) : null;
        stack.add(new Expression(kind, argument, x, y));
        steps++;
        return stack.size();
    }

    private void free(int from, int to) {
        arcs.add(new Arc(from, to, 'a', -1));
    }

    private void build(Expression e, int from, int to) {
        switch (e.kind) {
            case 't': {
                int middle = states++;
                build(e.x, from, middle);
                build(e.y, middle, to);
                break;
            }
            case 'o':
                // States of their own, so that a star on one side stays there.
                for (Expression side : new Expression[] {e.x, e.y}) {
                    int in = states++;
                    int out = states++;
                    free(from, in);
                    free(out, to);
                    build(side, in, out);
                }
                break;
            case 's': {
                int in = states++;
                int out = states++;
                int hub = states++;
                free(from, hub);
                free(hub, to);
                free(hub, in);
                free(out, hub);
                build(e.x, in, out);
                break;
            }
            default:
                arcs.add(new Arc(from, to, e.kind, e.argument));
        }
    }

    private boolean passes(Arc arc, int from, int to) {
        switch (arc.kind) {
            case 'l':
                return edges[arc.argument][from][to];
            case 'b':
                return edges[arc.argument][to][from];
            default:
                return from == to && (arc.argument == -1 || arc.argument == from);
        }
    }

    private void searchFrom(int start) {
        int[] distance = new int[states * 8];
        Arrays.fill(distance, Integer.MAX_VALUE);
        distance[start] = 0;
        ArrayDeque<Integer> open = new ArrayDeque<>();
        open.add(start);
        while (!open.isEmpty()) {
            int place = open.poll();
            for (Arc arc : arcs) {
                if (arc.from != place / 8) {
                    continue;
                }
                int cost = arc.kind == 'a' ? 0 : 1;
                for (int node = 0; node < 8; node++) {
                    int next = arc.to * 8 + node;
                    if (passes(arc, place % 8, node) && distance[place] + cost < distance[next]) {
                        distance[next] = distance[place] + cost;
                        open.add(next);
                    }
                }
            }
        }
        for (int node = 0; node < 8; node++) {
            int d = distance[8 + node];
            least[start][node] = d == Integer.MAX_VALUE ? -5 : d;
        }
    }

    private void search() {
        for (int[] row : least) {
            Arrays.fill(row, -5);
        }
        if (stack.isEmpty()) {
            return;
        }
        arcs.clear();
        states = 2;
        build(stack.get(stack.size() - 1), 0, 1);
        for (int start = 0; start < 8; start++) {
            searchFrom(start);
        }
    }

    private static boolean isNode(int n) {
        return n >= 0 && n <= 7;
    }

    private int shortest(int a, int b) {
        return isNode(a) && isNode(b) ? least[a][b] : -2;
    }

    private int reach(int a) {
        if (!isNode(a)) {
            return -2;
        }
        int mask = 0;
        for (int b = 0; b < 8; b++) {
            mask |= least[a][b] >= 0 ? 1 << b : 0;
        }
        return mask;
    }

    private int pairs() {
        int count = 0;
        for (int a = 0; a < 8; a++) {
            count += Integer.bitCount(reach(a));
        }
        return count;
    }

    private int loops() {
        int mask = 0;
        for (int n = 0; n < 8; n++) {
            mask |= least[n][n] >= 0 ? 1 << n : 0;
        }
        return mask;
    }

    private int widest() {
        int greatest = -5;
        for (int[] row : least) {
            for (int length : row) {
                greatest = Math.max(greatest, length);
            }
        }
        return greatest;
    }

    private static void due(int run, int call, String text, long got, long want) {
        if (got != want) {
            wrong++;
            if (wrong <= 20) {
                System.out.println("run " + run + ", call " + call + ": " + text
                        + " answered " + got + ", due is " + want);
            }
        }
    }

    private static int pick(Random random, int low, int high) {
        if (random.nextInt(40) == 0) {
            return WILD[random.nextInt(WILD.length)];
        }
        return low + random.nextInt(high - low + 1);
    }

    private static void run(int run) {
        Random random = new Random(run);
        int density = 1 + random.nextInt(20);
        PathAlgebra x = new PathAlgebra();
        AgainstAutomaton model = new AgainstAutomaton();
        for (int call = 1; call <= CALLS; call++) {
            int choice = random.nextInt(100);
            if (choice < 15) {
                changeEdge(run, call, x, model, random, density);
            } else if (choice < 60) {
                makeStep(run, call, x, model, random);
            } else if (choice < 63) {
                x.clear();
                model.stack.clear();
                model.steps = 0;
            } else if (choice < 75) {
                due(run, call, "steps()", x.steps(), model.steps);
            } else {
                ask(run, call, x, model, random);
            }
        }
    }

    private static void changeEdge(int run, int call, PathAlgebra x, AgainstAutomaton model, Random random, int density) {
        int label = pick(random, 0, 2);
        int ends = pick(random, 0, 63);
        boolean there = random.nextInt(20) < density;
        due(run, call, "edge(" + label + ", " + ends + ", " + there + ")",
                x.edge(label, ends, there), model.edge(label, ends, there));
    }

    private static void makeStep(int run, int call, PathAlgebra x, AgainstAutomaton model, Random random) {
        int label = pick(random, 0, 2);
        int n = pick(random, -1, 7);
        switch (random.nextInt(9)) {
            case 0:
            case 1:
            case 2:
                due(run, call, "label(" + label + ")", x.label(label), model.step('l', label));
                break;
            case 3:
                due(run, call, "back(" + label + ")", x.back(label), model.step('b', label));
                break;
            case 4:
                due(run, call, "at(" + n + ")", x.at(n), model.step('a', n));
                break;
            case 5:
            case 6:
                due(run, call, "then()", x.then(), model.step('t', 0));
                break;
            case 7:
                due(run, call, "or()", x.or(), model.step('o', 0));
                break;
            default:
                due(run, call, "star()", x.star(), model.step('s', 0));
        }
    }

    private static void ask(int run, int call, PathAlgebra x, AgainstAutomaton model, Random random) {
        model.search();
        int a = pick(random, 0, 7);
        int b = pick(random, 0, 7);
        switch (random.nextInt(6)) {
            case 0:
                due(run, call, "leads(" + a + ", " + b + ")", x.leads(a, b) ? 1 : 0, model.shortest(a, b) >= 0 ? 1 : 0);
                break;
            case 1:
                due(run, call, "shortest(" + a + ", " + b + ")", x.shortest(a, b), model.shortest(a, b));
                break;
            case 2:
                due(run, call, "reach(" + a + ")", x.reach(a), model.reach(a));
                break;
            case 3:
                due(run, call, "pairs()", x.pairs(), model.pairs());
                break;
            case 4:
                due(run, call, "loops()", x.loops(), model.loops());
                break;
            default:
                due(run, call, "widest()", x.widest(), model.widest());
        }
    }

    public static void main(String[] args) {
        for (int run = 0; run < RUNS; run++) {
            run(run);
        }
        System.out.println(wrong == 0 ? "all answers are as due" : wrong + " answers are not as due");
        if (wrong != 0) {
            System.exit(1);
        }
    }
}
