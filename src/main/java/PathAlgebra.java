/** Paths through a labelled graph, asked for by expressions. */
public final class PathAlgebra {
    public static final int BAD_LABEL = -1;
    public static final int BAD_NODE = -2;
    public static final int FULL = -3;
    public static final int STACK_LOW = -4;
    public static final int NO_PATH = -5;

    private static final int LABELS = 3;
    private static final int NODES = 8;
    private static final int PAIRS = NODES * NODES;
    private static final int MOST_STEPS = 14;
    private static final int MOST_EXPRESSIONS = 6;

    private static final int STEP_LABEL = 0;
    private static final int STEP_BACK = 1;
    private static final int STEP_AT = 2;
    private static final int STEP_THEN = 3;
    private static final int STEP_OR = 4;
    private static final int STEP_STAR = 5;
    private static final int ANY_NODE = -1;

    // Stands for "no path". A shortest path is never twice at the same node and
    // the same place of its expression, so it has fewer than 8 * 15 edges; and
    // two of these added still fit an int, so sums need no case of their own.
    private static final int FAR = 1000000;

    private static final int EDGE_PLACES = LABELS * PAIRS;
    // One table more than there are expressions: the lowest one never has a
    // path, and is what an empty stack is asked about.
    private static final int LENGTH_PLACES = (MOST_EXPRESSIONS + 1) * PAIRS;

    // A pair of nodes is numbered everywhere as in 'ends': from + 8 * to.
    private final boolean[] edges = new boolean[EDGE_PLACES];

    // The steps are kept, not their paths: an edge set or taken away later
    // changes the paths of expressions that are already on the stack.
    private final int[] stepKinds = new int[MOST_STEPS];
    private final int[] stepArguments = new int[MOST_STEPS];
    private int stepsMade;
    private int expressions;

    // Room to work in; written anew by each call that asks.
    private final int[] lengths = new int[LENGTH_PLACES];
    private final int[] joined = new int[PAIRS];

    public PathAlgebra() {
        stepsMade = 0;
        expressions = 0;
    }

    public int edge(int label, int ends, boolean there) {
        if (!isLabel(label)) {
            return BAD_LABEL;
        }
        if (ends < 0 || ends >= PAIRS) {
            return BAD_NODE;
        }
        int place = label * PAIRS + ends;
        int before = edges[place] ? 1 : 0;
        edges[place] = there;
        return before;
    }

    public int label(int label) {
        if (!isLabel(label)) {
            return BAD_LABEL;
        }
        return addStep(STEP_LABEL, label, 0);
    }

    public int back(int label) {
        if (!isLabel(label)) {
            return BAD_LABEL;
        }
        return addStep(STEP_BACK, label, 0);
    }

    public int at(int n) {
        if (n != ANY_NODE && !isNode(n)) {
            return BAD_NODE;
        }
        return addStep(STEP_AT, n, 0);
    }

    public int then() {
        return addStep(STEP_THEN, 0, 2);
    }

    public int or() {
        return addStep(STEP_OR, 0, 2);
    }

    public int star() {
        return addStep(STEP_STAR, 0, 1);
    }

    public void clear() {
        stepsMade = 0;
        expressions = 0;
    }

    public boolean leads(int a, int b) {
        if (!isNode(a) || !isNode(b)) {
            return false;
        }
        int top = measureTop();
        return lengths[top + a + NODES * b] < FAR;
    }

    public int shortest(int a, int b) {
        if (!isNode(a) || !isNode(b)) {
            return BAD_NODE;
        }
        int top = measureTop();
        int length = lengths[top + a + NODES * b];
        return length < FAR ? length : NO_PATH;
    }

    public int reach(int a) {
        if (!isNode(a)) {
            return BAD_NODE;
        }
        int top = measureTop();
        int mask = 0;
        for (int b = 0; b < NODES; b++) {
            if (lengths[top + a + NODES * b] < FAR) {
                mask |= 1 << b;
            }
        }
        return mask;
    }

    public int pairs() {
        int top = measureTop();
        int count = 0;
        for (int ends = 0; ends < PAIRS; ends++) {
            if (lengths[top + ends] < FAR) {
                count++;
            }
        }
        return count;
    }

    public int loops() {
        int top = measureTop();
        int mask = 0;
        for (int n = 0; n < NODES; n++) {
            if (lengths[top + n + NODES * n] < FAR) {
                mask |= 1 << n;
            }
        }
        return mask;
    }

    public int widest() {
        int top = measureTop();
        // NO_PATH lies below every length, so the first one found replaces it.
        int greatest = NO_PATH;
        for (int ends = 0; ends < PAIRS; ends++) {
            int length = lengths[top + ends];
            if (length < FAR && length > greatest) {
                greatest = length;
            }
        }
        return greatest;
    }

    public int steps() {
        return stepsMade;
    }

    private static boolean isLabel(int label) {
        return label >= 0 && label < LABELS;
    }

    private static boolean isNode(int n) {
        return n >= 0 && n < NODES;
    }

    private int addStep(int kind, int argument, int taken) {
        if (stepsMade >= MOST_STEPS) {
            return FULL;
        }
        if (taken == 0 && expressions >= MOST_EXPRESSIONS) {
            return FULL;
        }
        if (expressions < taken) {
            return STACK_LOW;
        }
        stepKinds[stepsMade] = kind;
        stepArguments[stepsMade] = argument;
        stepsMade++;
        expressions += 1 - taken;
        return expressions;
    }

    /**
     * Works out the least lengths of all expressions on the stack and answers
     * where the table of the top one begins. addStep has let in only steps
     * that find what they take off, so the tables never run out.
     */
    private int measureTop() {
        int top = 0;
        forgetPaths(top);
        for (int i = 0; i < stepsMade; i++) {
            top = measureStep(stepKinds[i], stepArguments[i], top);
        }
        return top;
    }

    /** Does one step on the tables and answers where the top one begins then. */
    private int measureStep(int kind, int argument, int top) {
        int above = top + PAIRS;
        int below = top - PAIRS;
        switch (kind) {
            case STEP_LABEL:
                measureLabel(argument, above);
                return above;
            case STEP_BACK:
                measureBack(argument, above);
                return above;
            case STEP_AT:
                measureAt(argument, above);
                return above;
            case STEP_THEN:
                joinTables(below, top);
                return below;
            case STEP_OR:
                mergeTables(below, top);
                return below;
            default:
                repeatTable(top);
                return top;
        }
    }

    private void forgetPaths(int table) {
        for (int ends = 0; ends < PAIRS; ends++) {
            lengths[table + ends] = FAR;
        }
    }

    private void measureLabel(int label, int table) {
        for (int ends = 0; ends < PAIRS; ends++) {
            lengths[table + ends] = edges[label * PAIRS + ends] ? 1 : FAR;
        }
    }

    private void measureBack(int label, int table) {
        for (int a = 0; a < NODES; a++) {
            for (int b = 0; b < NODES; b++) {
                boolean there = edges[label * PAIRS + b + NODES * a];
                lengths[table + a + NODES * b] = there ? 1 : FAR;
            }
        }
    }

    private void measureAt(int node, int table) {
        forgetPaths(table);
        for (int n = 0; n < NODES; n++) {
            if (node == ANY_NODE || node == n) {
                lengths[table + n + NODES * n] = 0;
            }
        }
    }

    private void joinTables(int first, int second) {
        for (int a = 0; a < NODES; a++) {
            for (int b = 0; b < NODES; b++) {
                joined[a + NODES * b] = shortestJoin(first + a, second + NODES * b);
            }
        }
        for (int ends = 0; ends < PAIRS; ends++) {
            lengths[first + ends] = joined[ends];
        }
    }

    /** The least sum over the nodes at which the first path may hand over to the second. */
    private int shortestJoin(int first, int second) {
        int least = FAR;
        for (int middle = 0; middle < NODES; middle++) {
            int length = lengths[first + NODES * middle] + lengths[second + middle];
            if (length < least) {
                least = length;
            }
        }
        return least;
    }

    private void mergeTables(int kept, int other) {
        for (int ends = 0; ends < PAIRS; ends++) {
            if (lengths[other + ends] < lengths[kept + ends]) {
                lengths[kept + ends] = lengths[other + ends];
            }
        }
    }

    private void repeatTable(int table) {
        for (int n = 0; n < NODES; n++) {
            lengths[table + n + NODES * n] = 0;
        }
        // The middle node must be the outermost loop: after its round, the
        // lengths allow every way through the middle nodes up to it.
        for (int middle = 0; middle < NODES; middle++) {
            allowThrough(middle, table);
        }
    }

    private void allowThrough(int middle, int table) {
        for (int a = 0; a < NODES; a++) {
            for (int b = 0; b < NODES; b++) {
                int length = lengths[table + a + NODES * middle] + lengths[table + middle + NODES * b];
                if (length < lengths[table + a + NODES * b]) {
                    lengths[table + a + NODES * b] = length;
                }
            }
        }
    }
}
