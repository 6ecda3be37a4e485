/** One method for each promise of the document: ordinary inputs, edges and wrong inputs. */
public final class PromiseTests {
    private static int wrong = 0;

    private static void due(String call, long got, long want) {
        if (got != want) {
            wrong++;
            System.out.println(call + " answered " + got + ", due is " + want);
        }
    }

    private static void due(String call, boolean got, boolean want) {
        due(call, got ? 1L : 0L, want ? 1L : 0L);
    }

    private static int ends(int from, int to) {
        return from + 8 * to;
    }

    /** Label 0 leads 0 to 1 to 2 to 3, label 1 leads 3 to 0, label 2 has a loop at 5. */
    private static PathAlgebra smallGraph() {
        PathAlgebra x = new PathAlgebra();
        x.edge(0, ends(0, 1), true);
        x.edge(0, ends(1, 2), true);
        x.edge(0, ends(2, 3), true);
        x.edge(1, ends(3, 0), true);
        x.edge(2, ends(5, 5), true);
        return x;
    }

    private static void dueNoPaths(String where, PathAlgebra x) {
        for (int a = 0; a < 8; a++) {
            for (int b = 0; b < 8; b++) {
                due(where + " leads(" + a + ", " + b + ")", x.leads(a, b), false);
                due(where + " shortest(" + a + ", " + b + ")", x.shortest(a, b), PathAlgebra.NO_PATH);
            }
            due(where + " reach(" + a + ")", x.reach(a), 0);
        }
        due(where + " pairs()", x.pairs(), 0);
        due(where + " loops()", x.loops(), 0);
        due(where + " widest()", x.widest(), PathAlgebra.NO_PATH);
    }

    private static void promise1NewObject() {
        PathAlgebra x = new PathAlgebra();
        due("P1 steps()", x.steps(), 0);
        dueNoPaths("P1 new:", x);
        due("P1 star()", x.star(), PathAlgebra.STACK_LOW);
        for (int label = 0; label < 3; label++) {
            for (int ends = 0; ends < 64; ends++) {
                due("P1 edge(" + label + ", " + ends + ", false)", x.edge(label, ends, false), 0);
            }
        }
        PathAlgebra other = smallGraph();
        due("P1 a second object: label(0)", x.label(0), 1);
        due("P1 objects share nothing: pairs()", x.pairs(), 0);
        due("P1 objects share nothing: steps()", other.steps(), 0);
    }

    private static void promise2Edge() {
        PathAlgebra x = new PathAlgebra();
        due("P2 edge(0, 0, true)", x.edge(0, 0, true), 0);
        due("P2 edge(0, 0, true) again", x.edge(0, 0, true), 1);
        due("P2 edge(0, 0, false)", x.edge(0, 0, false), 1);
        due("P2 edge(0, 0, false) again", x.edge(0, 0, false), 0);
        due("P2 edge(2, 63, true)", x.edge(2, 63, true), 0);
        due("P2 the same ends of another label", x.edge(1, 63, true), 0);
        due("P2 the ends the other way round", x.edge(1, ends(3, 6), true), 0);
        due("P2 the ends the other way round", x.edge(1, ends(6, 3), true), 0);
        int[] badLabels = {-1, 3, Integer.MIN_VALUE, Integer.MAX_VALUE};
        for (int label : badLabels) {
            due("P2 edge(" + label + ", 5, true)", x.edge(label, 5, true), PathAlgebra.BAD_LABEL);
        }
        int[] badEnds = {-1, 64, Integer.MIN_VALUE, Integer.MAX_VALUE};
        for (int ends : badEnds) {
            for (int label = 0; label < 3; label++) {
                due("P2 edge(" + label + ", " + ends + ", true)", x.edge(label, ends, true), PathAlgebra.BAD_NODE);
                due("P2 edge(" + label + ", " + ends + ", false)", x.edge(label, ends, false), PathAlgebra.BAD_NODE);
            }
        }
        int[] edgesLeft = {0, 3, 1};
        for (int label = 0; label < 3; label++) {
            x.label(label);
            due("P2 edges of label " + label, x.pairs(), edgesLeft[label]);
        }
        due("P2 steps() counts no edge", x.steps(), 3);
    }

    private static void promise2EdgeAfterTheSteps() {
        PathAlgebra x = new PathAlgebra();
        x.label(0);
        x.star();
        due("P2 shortest(0, 2) before its edges", x.shortest(0, 2), PathAlgebra.NO_PATH);
        x.edge(0, ends(0, 1), true);
        x.edge(0, ends(1, 2), true);
        due("P2 shortest(0, 2) with its edges", x.shortest(0, 2), 2);
        x.edge(0, ends(0, 2), true);
        due("P2 shortest(0, 2) with a shorter way", x.shortest(0, 2), 1);
        x.edge(0, ends(0, 2), false);
        x.edge(0, ends(1, 2), false);
        due("P2 shortest(0, 2) without them", x.shortest(0, 2), PathAlgebra.NO_PATH);
        due("P2 shortest(0, 1) still", x.shortest(0, 1), 1);
    }

    private static void promise3Label() {
        PathAlgebra x = smallGraph();
        due("P3 label(0)", x.label(0), 1);
        due("P3 leads(0, 1)", x.leads(0, 1), true);
        due("P3 leads(1, 0)", x.leads(1, 0), false);
        due("P3 shortest(2, 3)", x.shortest(2, 3), 1);
        due("P3 shortest(0, 2)", x.shortest(0, 2), PathAlgebra.NO_PATH);
        due("P3 pairs()", x.pairs(), 3);
        due("P3 label(1)", x.label(1), 2);
        due("P3 reach(3)", x.reach(3), 1);
        due("P3 label(2)", x.label(2), 3);
        due("P3 loops()", x.loops(), 32);
        due("P3 label(-1)", x.label(-1), PathAlgebra.BAD_LABEL);
        due("P3 label(3)", x.label(3), PathAlgebra.BAD_LABEL);
        due("P3 label(MIN)", x.label(Integer.MIN_VALUE), PathAlgebra.BAD_LABEL);
        due("P3 label(MAX)", x.label(Integer.MAX_VALUE), PathAlgebra.BAD_LABEL);
        due("P3 steps()", x.steps(), 3);
        due("P3 the top is as before: loops()", x.loops(), 32);
        x.label(0);
        x.label(0);
        due("P3 the sixth", x.label(0), 6);
        due("P3 the seventh", x.label(1), PathAlgebra.FULL);
        due("P3 BAD_LABEL ahead of FULL", x.label(3), PathAlgebra.BAD_LABEL);
        due("P3 the top is as before: pairs()", x.pairs(), 3);
    }

    private static void promise4Back() {
        PathAlgebra x = smallGraph();
        due("P4 back(0)", x.back(0), 1);
        due("P4 leads(1, 0)", x.leads(1, 0), true);
        due("P4 leads(0, 1)", x.leads(0, 1), false);
        due("P4 shortest(3, 2)", x.shortest(3, 2), 1);
        due("P4 reach(2)", x.reach(2), 2);
        due("P4 pairs()", x.pairs(), 3);
        due("P4 back(1)", x.back(1), 2);
        due("P4 reach(0)", x.reach(0), 8);
        due("P4 back(2)", x.back(2), 3);
        due("P4 loops()", x.loops(), 32);
        due("P4 back(-1)", x.back(-1), PathAlgebra.BAD_LABEL);
        due("P4 back(3)", x.back(3), PathAlgebra.BAD_LABEL);
        due("P4 back(MIN)", x.back(Integer.MIN_VALUE), PathAlgebra.BAD_LABEL);
        due("P4 back(MAX)", x.back(Integer.MAX_VALUE), PathAlgebra.BAD_LABEL);
        due("P4 steps()", x.steps(), 3);
        x.back(0);
        x.back(0);
        due("P4 the sixth", x.back(0), 6);
        due("P4 the seventh", x.back(1), PathAlgebra.FULL);
        due("P4 BAD_LABEL ahead of FULL", x.back(-1), PathAlgebra.BAD_LABEL);
        due("P4 the top is as before: pairs()", x.pairs(), 3);
    }

    private static void promise5At() {
        PathAlgebra x = smallGraph();
        int[] nodes = {0, 3, 7};
        for (int n : nodes) {
            x.clear();
            due("P5 at(" + n + ")", x.at(n), 1);
            due("P5 shortest(" + n + ", " + n + ")", x.shortest(n, n), 0);
            due("P5 loops()", x.loops(), 1 << n);
            due("P5 pairs()", x.pairs(), 1);
            due("P5 widest()", x.widest(), 0);
        }
        due("P5 at(-1)", x.at(-1), 2);
        due("P5 EMPTY: loops()", x.loops(), 255);
        due("P5 EMPTY: pairs()", x.pairs(), 8);
        due("P5 EMPTY: shortest(4, 4)", x.shortest(4, 4), 0);
        due("P5 at(-2)", x.at(-2), PathAlgebra.BAD_NODE);
        due("P5 at(8)", x.at(8), PathAlgebra.BAD_NODE);
        due("P5 at(MIN)", x.at(Integer.MIN_VALUE), PathAlgebra.BAD_NODE);
        due("P5 at(MAX)", x.at(Integer.MAX_VALUE), PathAlgebra.BAD_NODE);
        due("P5 steps()", x.steps(), 2);
        x.at(0);
        x.at(0);
        x.at(0);
        due("P5 the sixth", x.at(6), 6);
        due("P5 the seventh", x.at(1), PathAlgebra.FULL);
        due("P5 the seventh, EMPTY", x.at(-1), PathAlgebra.FULL);
        due("P5 BAD_NODE ahead of FULL", x.at(8), PathAlgebra.BAD_NODE);
        due("P5 the top is as before: loops()", x.loops(), 64);
    }

    private static void promise6Then() {
        PathAlgebra x = smallGraph();
        due("P6 then() on none", x.then(), PathAlgebra.STACK_LOW);
        x.label(0);
        due("P6 then() on one", x.then(), PathAlgebra.STACK_LOW);
        due("P6 steps()", x.steps(), 1);
        due("P6 the one stays: pairs()", x.pairs(), 3);
        x.label(1);
        due("P6 then()", x.then(), 1);
        due("P6 steps()", x.steps(), 3);
        due("P6 x first, y behind it: reach(2)", x.reach(2), 1);
        due("P6 shortest(2, 0)", x.shortest(2, 0), 2);
        due("P6 pairs()", x.pairs(), 1);
        x.clear();
        x.at(7);
        x.label(0);
        x.at(2);
        due("P6 label then at", x.then(), 2);
        due("P6 leads(1, 2)", x.leads(1, 2), true);
        due("P6 pairs()", x.pairs(), 1);
        due("P6 shortest(1, 2)", x.shortest(1, 2), 1);
        due("P6 nothing meets", x.then(), 1);
        dueNoPaths("P6 nothing meets:", x);
        due("P6 one is left", x.then(), PathAlgebra.STACK_LOW);
    }

    private static void promise6ThenTakesTheShortestJoin() {
        PathAlgebra x = new PathAlgebra();
        x.edge(0, ends(0, 1), true);
        x.edge(0, ends(0, 2), true);
        x.edge(1, ends(1, 3), true);
        x.edge(1, ends(3, 4), true);
        x.edge(1, ends(2, 4), true);
        x.label(0);
        x.label(1);
        x.star();
        x.then();
        due("P6 shortest(0, 4) by 2, not by 1 and 3", x.shortest(0, 4), 2);
        due("P6 reach(0)", x.reach(0), 2 + 4 + 8 + 16);
    }

    private static void promise7Or() {
        PathAlgebra x = smallGraph();
        due("P7 or() on none", x.or(), PathAlgebra.STACK_LOW);
        x.label(0);
        due("P7 or() on one", x.or(), PathAlgebra.STACK_LOW);
        due("P7 steps()", x.steps(), 1);
        x.label(1);
        due("P7 or()", x.or(), 1);
        due("P7 pairs()", x.pairs(), 4);
        due("P7 leads(0, 1)", x.leads(0, 1), true);
        due("P7 leads(3, 0)", x.leads(3, 0), true);
        due("P7 steps()", x.steps(), 3);
        for (int order = 0; order < 2; order++) {
            x.clear();
            if (order == 0) {
                x.at(5);
                x.label(2);
            } else {
                x.label(2);
                x.at(5);
            }
            x.or();
            due("P7 the shorter of both, order " + order, x.shortest(5, 5), 0);
        }
        for (int ends = 0; ends < 64; ends++) {
            PathAlgebra one = new PathAlgebra();
            one.edge(0, ends, true);
            one.label(0);
            one.label(1);
            one.or();
            due("P7 only x has ends " + ends, one.shortest(ends % 8, ends / 8), 1);
            one.clear();
            one.label(1);
            one.label(0);
            one.or();
            due("P7 only y has ends " + ends, one.shortest(ends % 8, ends / 8), 1);
        }
    }

    private static void promise8Star() {
        PathAlgebra x = smallGraph();
        due("P8 star() on none", x.star(), PathAlgebra.STACK_LOW);
        due("P8 steps()", x.steps(), 0);
        x.label(0);
        due("P8 star()", x.star(), 1);
        due("P8 steps()", x.steps(), 2);
        due("P8 shortest(0, 0)", x.shortest(0, 0), 0);
        due("P8 shortest(0, 1)", x.shortest(0, 1), 1);
        due("P8 shortest(0, 3)", x.shortest(0, 3), 3);
        due("P8 leads(3, 0)", x.leads(3, 0), false);
        due("P8 pairs()", x.pairs(), 8 + 6);
        due("P8 star of a star", x.star(), 1);
        due("P8 star of a star: shortest(0, 3)", x.shortest(0, 3), 3);
        x.clear();
        for (int i = 0; i < 6; i++) {
            x.label(0);
        }
        due("P8 star() on six", x.star(), 6);
    }

    private static void promise8StarOfLongerPaths() {
        PathAlgebra x = new PathAlgebra();
        for (int n = 0; n < 8; n++) {
            x.edge(0, ends(n, (n + 1) % 8), true);
        }
        x.label(0);
        x.label(0);
        x.label(0);
        x.then();
        x.then();
        x.star();
        due("P8 a ring by threes: pairs()", x.pairs(), 64);
        due("P8 a ring by threes: shortest(0, 1)", x.shortest(0, 1), 9);
        due("P8 a ring by threes: shortest(0, 5)", x.shortest(0, 5), 21);
        due("P8 a ring by threes: widest()", x.widest(), 21);
    }

    private static void promise9Clear() {
        PathAlgebra x = smallGraph();
        x.clear();
        due("P9 clear at the start: steps()", x.steps(), 0);
        for (int i = 0; i < 6; i++) {
            x.label(0);
        }
        x.clear();
        due("P9 steps()", x.steps(), 0);
        dueNoPaths("P9 cleared:", x);
        due("P9 star()", x.star(), PathAlgebra.STACK_LOW);
        due("P9 label(0)", x.label(0), 1);
        due("P9 the edges stay: pairs()", x.pairs(), 3);
        for (int i = 0; i < 13; i++) {
            x.star();
        }
        due("P9 star() after fourteen", x.star(), PathAlgebra.FULL);
        x.clear();
        due("P9 a step after clear", x.label(1), 1);
        due("P9 steps()", x.steps(), 1);
    }

    private static void promise10Leads() {
        PathAlgebra x = smallGraph();
        due("P10 empty stack", x.leads(0, 0), false);
        x.label(0);
        x.label(1);
        x.or();
        x.star();
        due("P10 leads(0, 3)", x.leads(0, 3), true);
        due("P10 leads(3, 2)", x.leads(3, 2), true);
        due("P10 leads(7, 7)", x.leads(7, 7), true);
        due("P10 leads(3, 4)", x.leads(3, 4), false);
        int[] bad = {-1, 8, Integer.MIN_VALUE, Integer.MAX_VALUE};
        for (int n : bad) {
            due("P10 leads(" + n + ", 0)", x.leads(n, 0), false);
            due("P10 leads(0, " + n + ")", x.leads(0, n), false);
            due("P10 leads(" + n + ", " + n + ")", x.leads(n, n), false);
        }
        // 9 + 8 * -1 is the number of the pair (1, 0), which a path leads between.
        due("P10 leads(9, -1)", x.leads(9, -1), false);
    }

    private static void promise11Shortest() {
        PathAlgebra x = smallGraph();
        due("P11 empty stack", x.shortest(0, 0), PathAlgebra.NO_PATH);
        due("P11 empty stack, bad node", x.shortest(8, 0), PathAlgebra.BAD_NODE);
        x.label(0);
        x.label(1);
        x.or();
        x.star();
        due("P11 shortest(0, 0)", x.shortest(0, 0), 0);
        due("P11 shortest(1, 0)", x.shortest(1, 0), 3);
        due("P11 shortest(0, 7)", x.shortest(0, 7), PathAlgebra.NO_PATH);
        x.label(2);
        due("P11 a loop has length 1", x.shortest(5, 5), 1);
        int[] bad = {-1, 8, Integer.MIN_VALUE, Integer.MAX_VALUE};
        for (int n : bad) {
            due("P11 shortest(" + n + ", 0)", x.shortest(n, 0), PathAlgebra.BAD_NODE);
            due("P11 shortest(0, " + n + ")", x.shortest(0, n), PathAlgebra.BAD_NODE);
        }
    }

    private static void promise12Reach() {
        PathAlgebra x = smallGraph();
        due("P12 empty stack", x.reach(0), 0);
        due("P12 empty stack, bad node", x.reach(-1), PathAlgebra.BAD_NODE);
        x.edge(0, ends(0, 7), true);
        x.label(0);
        due("P12 reach(0)", x.reach(0), 2 + 128);
        due("P12 reach(1)", x.reach(1), 4);
        due("P12 reach(7)", x.reach(7), 0);
        x.star();
        due("P12 reach(0) of the star", x.reach(0), 1 + 2 + 4 + 8 + 128);
        due("P12 reach(7) of the star", x.reach(7), 128);
        int[] bad = {-1, 8, Integer.MIN_VALUE, Integer.MAX_VALUE};
        for (int n : bad) {
            due("P12 reach(" + n + ")", x.reach(n), PathAlgebra.BAD_NODE);
        }
    }

    private static void promise13Pairs() {
        PathAlgebra x = new PathAlgebra();
        due("P13 empty stack", x.pairs(), 0);
        x.label(0);
        due("P13 no edges", x.pairs(), 0);
        for (int ends = 0; ends < 64; ends++) {
            x.edge(0, ends, true);
            due("P13 edges up to " + ends, x.pairs(), ends + 1);
        }
        x.label(0);
        x.then();
        due("P13 a pair counts once, whatever the paths", x.pairs(), 64);
    }

    private static void promise14Loops() {
        PathAlgebra x = smallGraph();
        due("P14 empty stack", x.loops(), 0);
        x.label(0);
        due("P14 none", x.loops(), 0);
        x.label(0);
        x.label(0);
        x.then();
        x.then();
        x.label(1);
        x.then();
        due("P14 only the ring from 0", x.loops(), 1);
        x.label(2);
        due("P14 the loop at 5", x.loops(), 32);
        x.star();
        due("P14 star", x.loops(), 255);
    }

    private static void promise15Widest() {
        PathAlgebra x = smallGraph();
        due("P15 empty stack", x.widest(), PathAlgebra.NO_PATH);
        x.at(3);
        due("P15 of length 0 alone", x.widest(), 0);
        x.at(4);
        x.then();
        due("P15 no paths", x.widest(), PathAlgebra.NO_PATH);
        x.label(0);
        due("P15 one edge", x.widest(), 1);
        x.label(1);
        x.or();
        x.star();
        due("P15 the least lengths, not the longer ways", x.widest(), 3);
    }

    private static void promise16Steps() {
        PathAlgebra x = smallGraph();
        due("P16 edges are no steps", x.steps(), 0);
        x.label(0);
        due("P16 label", x.steps(), 1);
        x.back(0);
        due("P16 back", x.steps(), 2);
        x.then();
        due("P16 then", x.steps(), 3);
        x.at(1);
        due("P16 at", x.steps(), 4);
        x.or();
        due("P16 or", x.steps(), 5);
        x.star();
        due("P16 star", x.steps(), 6);
        x.or();
        x.then();
        x.label(3);
        x.back(3);
        x.at(8);
        due("P16 refused steps do not count", x.steps(), 6);
        x.pairs();
        x.widest();
        x.steps();
        due("P16 asking does not count", x.steps(), 6);
        for (int i = 0; i < 20; i++) {
            x.star();
        }
        due("P16 at most fourteen", x.steps(), 14);
        x.clear();
        due("P16 after clear", x.steps(), 0);
    }

    private static void promise17OrderAndLimits() {
        PathAlgebra x = new PathAlgebra();
        due("P17 edge(3, 64, true)", x.edge(3, 64, true), PathAlgebra.BAD_LABEL);
        due("P17 edge(-1, -1, false)", x.edge(-1, -1, false), PathAlgebra.BAD_LABEL);
        x.label(0);
        x.star();
        due("P17 star without edges: loops()", x.loops(), 255);
        due("P17 star without edges: pairs()", x.pairs(), 8);
        due("P17 star without edges: widest()", x.widest(), 0);
        x.clear();
        x.at(2);
        x.star();
        due("P17 star of AT 2: loops()", x.loops(), 255);
        due("P17 star of AT 2: shortest(6, 6)", x.shortest(6, 6), 0);
        x.clear();
        x.edge(0, ends(1, 1), true);
        x.label(0);
        x.star();
        due("P17 star of a loop: shortest(1, 1)", x.shortest(1, 1), 0);
    }

    private static void theStepsInOrder() {
        PathAlgebra x = smallGraph();
        x.label(0);
        for (int i = 0; i < 12; i++) {
            due("steps: star()", x.star(), 1);
        }
        due("steps: STACK_LOW at thirteen", x.then(), PathAlgebra.STACK_LOW);
        due("steps: the fourteenth", x.star(), 1);
        due("steps: FULL ahead of STACK_LOW, then()", x.then(), PathAlgebra.FULL);
        due("steps: FULL ahead of STACK_LOW, or()", x.or(), PathAlgebra.FULL);
        due("steps: FULL, star()", x.star(), PathAlgebra.FULL);
        due("steps: FULL, label(0)", x.label(0), PathAlgebra.FULL);
        due("steps: FULL, back(0)", x.back(0), PathAlgebra.FULL);
        due("steps: FULL, at(0)", x.at(0), PathAlgebra.FULL);
        due("steps: BAD_LABEL ahead of FULL, label(3)", x.label(3), PathAlgebra.BAD_LABEL);
        due("steps: BAD_LABEL ahead of FULL, back(3)", x.back(3), PathAlgebra.BAD_LABEL);
        due("steps: BAD_NODE ahead of FULL, at(-2)", x.at(-2), PathAlgebra.BAD_NODE);
        due("steps: nothing changed, steps()", x.steps(), 14);
        due("steps: nothing changed, pairs()", x.pairs(), 14);
        x.clear();
        for (int i = 1; i <= 6; i++) {
            due("steps: at(" + i + ")", x.at(i), i);
        }
        due("steps: a seventh", x.label(0), PathAlgebra.FULL);
        due("steps: six and star()", x.star(), 6);
        due("steps: six and or()", x.or(), 5);
        due("steps: room again", x.back(0), 6);
        due("steps: six and then()", x.then(), 5);
        due("steps: steps()", x.steps(), 10);
    }

    private static void constants() {
        due("BAD_LABEL", PathAlgebra.BAD_LABEL, -1);
        due("BAD_NODE", PathAlgebra.BAD_NODE, -2);
        due("FULL", PathAlgebra.FULL, -3);
        due("STACK_LOW", PathAlgebra.STACK_LOW, -4);
        due("NO_PATH", PathAlgebra.NO_PATH, -5);
    }

    public static void main(String[] args) {
        constants();
        promise1NewObject();
        promise2Edge();
        promise2EdgeAfterTheSteps();
        promise3Label();
        promise4Back();
        promise5At();
        promise6Then();
        promise6ThenTakesTheShortestJoin();
        promise7Or();
        promise8Star();
        promise8StarOfLongerPaths();
        promise9Clear();
        promise10Leads();
        promise11Shortest();
        promise12Reach();
        promise13Pairs();
        promise14Loops();
        promise15Widest();
        promise16Steps();
        promise17OrderAndLimits();
        theStepsInOrder();
        System.out.println(wrong == 0 ? "all answers are as due" : wrong + " answers are not as due");
        if (wrong != 0) {
            System.exit(1);
        }
    }
}
