/** Promises 5 to 9 and 12: count, node, edge, group, letter, far. */
public final class StructureTest {
    /** Two triangles at node c, a tail d-e of bridges, and a part of its own. */
    private static final String BOW = "a-b-c-a;c>d>e;c-f-g-c;x>y>z>x;node lone;";
    private static final String NEST =
            "group top{node a[size=5];group in{node bb[size=7];a-ccc;}node d;}node e[size=99];group empty{}e>a[weight=9];";

    public static void main(String[] args) {
        partsBlocksAndCores();
        groupsAndLetters();
        wrongQuestions();
        blocksAreNumberedByTheirLeastEdges();
        Check.end();
    }

    private static void row(String what, DrawingHouse house, int kind, int question, int... want) {
        for (int i = 0; i < want.length; i++) {
            int got = kind == 0 ? house.node(0, i, question) : house.edge(0, i, question);
            Check.due(what + " of " + i, got, want[i]);
        }
    }

    private static void partsBlocksAndCores() {
        DrawingHouse house = Check.house(BOW);
        int[] counts = {11, 11, 1, 3, 5, 5, 0, 0};
        for (int what = 0; what < 8; what++) {
            Check.due("count " + what, house.count(0, what), counts[what]);
        }
        // Nodes: a b c d e f g x y z lone.
        row("neighbours", house, 0, 3, 2, 2, 5, 2, 1, 2, 2, 2, 2, 2, 0);
        row("part", house, 0, 4, 0, 0, 0, 0, 0, 0, 0, 1, 1, 1, 2);
        row("blocks", house, 0, 5, 1, 1, 3, 2, 1, 1, 1, 1, 1, 1, 0);
        row("strong part", house, 0, 6, 0, 0, 0, 1, 2, 0, 0, 3, 3, 3, 4);
        row("core", house, 0, 7, 2, 2, 2, 1, 1, 2, 2, 2, 2, 2, 0);
        // Edges: ab bc ca cd de cf fg gc xy yz zx.
        row("tail", house, 1, 0, 0, 1, 2, 2, 3, 2, 5, 6, 7, 8, 9);
        row("head", house, 1, 1, 1, 2, 0, 3, 4, 5, 6, 2, 8, 9, 7);
        row("one-way", house, 1, 3, 0, 0, 0, 1, 1, 0, 0, 0, 1, 1, 1);
        row("block", house, 1, 4, 0, 0, 0, 1, 2, 3, 3, 3, 4, 4, 4);
        row("bridge", house, 1, 5, 0, 0, 0, 1, 1, 0, 0, 0, 0, 0, 0);
        Check.due("far, one-way edges both ways", house.far(0, 4, 0), 3);
        Check.due("far to itself", house.far(0, 10, 10), 0);
        Check.due("far in another part", house.far(0, 0, 7), -1);
        int[] wrong = {-1, 11, Integer.MIN_VALUE, Integer.MAX_VALUE};
        for (int i : wrong) {
            Check.due("far from " + i, house.far(0, i, 0), -1);
            Check.due("far to " + i, house.far(0, 0, i), -1);
        }
        Check.due("far in no place", house.far(4, 0, 0), -1);
    }

    private static void groupsAndLetters() {
        DrawingHouse house = Check.house(NEST);
        Check.due("groups", house.count(0, 2), 4);
        int[] within = {-1, 0, 1, 0};
        int[] length = {0, 3, 2, 5};
        int[] sum = {113, 14, 8, 0};
        for (int i = 0; i < 4; i++) {
            Check.due("group " + i + " lies in", house.group(0, i, 0), within[i]);
            Check.due("its name's bytes", house.group(0, i, 1), length[i]);
            Check.due("its sizes", house.group(0, i, 2), sum[i]);
        }
        // Nodes: a bb ccc d e; ccc came first within 'in'.
        row("bytes", house, 0, 0, 1, 2, 3, 1, 1);
        row("size", house, 0, 1, 5, 7, 1, 1, 99);
        row("group", house, 0, 2, 1, 2, 2, 1, 0);
        row("weight", house, 1, 2, 1, 9);
        Check.due("letter of a node", house.letter(0, 0, 2, 2), 'c');
        Check.due("behind the last", house.letter(0, 0, 2, 3), -1);
        Check.due("letter of a group", house.letter(0, 1, 3, 4), 'y');
        Check.due("group 0 has no name", house.letter(0, 1, 0, 0), -1);
        Check.due("the weight is for all edges of an item", Check.house("a-b>c-d[weight=4];").edge(0, 1, 2), 4);
    }

    private static void wrongQuestions() {
        DrawingHouse house = Check.house(NEST);
        int[] wrong = {-1, 9, Integer.MIN_VALUE, Integer.MAX_VALUE};
        for (int w : wrong) {
            Check.due("count " + w, house.count(0, w), -1);
            Check.due("count in place " + w, house.count(w, 0), -1);
            Check.due("node " + w, house.node(0, w, 0), -1);
            Check.due("node in place " + w, house.node(w, 0, 0), -1);
            Check.due("node, what " + w, house.node(0, 0, w), -1);
            Check.due("edge " + w, house.edge(0, w, 0), -1);
            Check.due("edge in place " + w, house.edge(w, 0, 0), -1);
            Check.due("edge, what " + w, house.edge(0, 0, w), -1);
            Check.due("group " + w, house.group(0, w, 0), -1);
            Check.due("group in place " + w, house.group(w, 0, 0), -1);
            Check.due("group, what " + w, house.group(0, 0, w), -1);
            Check.due("letter of kind " + w, house.letter(0, w, 0, 0), -1);
            Check.due("letter of node " + w, house.letter(0, 0, w, 0), -1);
            Check.due("letter " + w, house.letter(0, 0, 0, w), -1);
            Check.due("letter in place " + w, house.letter(w, 0, 0, 0), -1);
        }
        Check.due("count 8", house.count(0, 8), -1);
        Check.due("node, what 8", house.node(0, 0, 8), -1);
        Check.due("edge, what 6", house.edge(0, 0, 6), -1);
        Check.due("group, what 3", house.group(0, 0, 3), -1);
        Check.due("an empty place", house.node(1, 0, 0), -1);
    }

    private static void blocksAreNumberedByTheirLeastEdges() {
        // The ring's edges are 0, 2, 4, the bridges 1 and 3.
        DrawingHouse house = Check.house("a-b;c-d;b-c;d-e;c-a;");
        row("block", house, 1, 4, 0, 1, 0, 2, 0);
        row("blocks at", house, 0, 5, 1, 1, 2, 2, 1);
        Check.due("K5 has core 4", Check.house("a-b-c-d-e-a-c-e-b-d-a;").node(0, 0, 7), 4);
    }
}
