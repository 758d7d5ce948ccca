/**
 * Sentences of PART 4 that tell which one counts of several, how something is rounded, and what is the
 * least: the cases in which two are just alike, and those just beside them.
 */
public final class WayTiesTest {
    public static void main(String[] args) {
        theLastOrderOfALayer();
        crossingsThatCannotBeHelped();
        theFirstOrderOfSeveral();
        barsFromTheTailOfEdge0();
        barsBehindBends();
        theLeastXOfATree();
        childrenByNumber();
        shapesThatAreNotWorse();
        sidesThatAreEqual();
        itemsOfEqualSize();
        groupsThatBecomeEmpty();
        placesOnTheRing();
        theBandOfAnotherGraph();
        nodesThatMeetAndArePulledAway();
        Check.end();
    }

    private static DrawingHouse drawn(String graph, int way, int a) {
        DrawingHouse house = Check.house(graph);
        Check.due("draw " + way + " of " + graph, house.draw(0, way, a), 0);
        return house;
    }

    private static void text(String graph, int way, int a, String want) {
        Check.due("way " + way + " of " + graph, Check.text(drawn(graph, way, a), 0, 1), want);
    }

    /** Layer 0 keeps its order, and layer 1 is the other way round: the last of all its orders. */
    private static void theLastOrderOfALayer() {
        for (int size = 2; size <= 7; size++) {
            StringBuilder graph = new StringBuilder(Check.nodes(2 * size));
            for (int k = 0; k < size; k++) {
                graph.append((char) ('a' + k)).append('>').append((char) ('a' + 2 * size - 1 - k)).append(';');
            }
            DrawingHouse house = drawn(graph.toString(), 0, 0);
            Check.due("no crossings with " + size, house.told(0, 1, 0), 0);
            for (int k = 0; k < size; k++) {
                Check.due("x of node " + k, house.at(0, 0, k, 0), 6 * k);
                Check.due("x of its head", house.at(0, 0, 2 * size - 1 - k, 0), 6 * k);
            }
        }
    }

    /** a, b and c, d cross once in any order; below them f and e are put under c and d. */
    private static void crossingsThatCannotBeHelped() {
        String graph = Check.nodes(6) + "a>c;a>d;b>c;b>d;c>f;d>e;";
        Check.due("crossings", drawn(graph, 0, 0).told(0, 1, 0), 1);
        text(graph, 0, 0, "a 0 0\nb 6 0\nc 0 5\nd 6 5\ne 6 10\nf 0 10\n0 2\n0 3\n1 2\n1 3\n2 5\n3 4\n");
    }

    /** Each layer keeps the order of its list, unless another one has fewer crossings; then it is the lower layer that turns. */
    private static void theFirstOrderOfSeveral() {
        text("node a;node b;node c;node d;a>c;b>d;", 0, 0, "a 0 0\nb 6 0\nc 0 5\nd 6 5\n0 2\n1 3\n");
        text("node a;node b;node c;node d;a>d;b>c;", 0, 0, "a 0 0\nb 6 0\nc 6 5\nd 0 5\n0 3\n1 2\n");
        text("node a;node b;node c;node d;", 0, 0, "a 0 0\nb 6 0\nc 12 0\nd 18 0\n");
        Check.due("crossings", drawn("a>c;a>d;b>c;b>d;", 0, 0).told(0, 1, 0), 1);
    }

    private static void barsFromTheTailOfEdge0() {
        String graph = Check.nodes(4) + "c-b;b-a;a-c;c-d;d-b;";
        text(graph, 2, 0, "a 0 3\nb 0 6\nc 0 0\nd 1 3\n2 1 -1 0 -1 6\n1 0 0 6 0 3\n0 2 0 3 0 0\n2 3 1 0 1 3\n3 1 1 3 1 6\n");
        numbers(graph, 1, 3, 0, 2);
        String turned = Check.nodes(4) + "b-c;b-a;a-c;c-d;d-b;";
        text(turned, 2, 0, "a 0 3\nb 0 0\nc 0 6\nd 1 3\n1 2 -1 0 -1 6\n1 0 0 0 0 3\n0 2 0 3 0 6\n2 3 1 6 1 3\n3 1 1 3 1 0\n");
        numbers(turned, 2, 0, 3, 1);
    }

    private static void numbers(String graph, int... want) {
        DrawingHouse house = drawn(graph, 2, 0);
        for (int i = 0; i < want.length; i++) {
            Check.due("number of node " + i + " of " + graph, house.told(0, 15, i), want[i]);
        }
    }

    /** Each edge has two bends, however often it is drawn, and whatever bends it had. */
    private static void barsBehindBends() {
        DrawingHouse house = Check.house("a>b>c;a>c;");
        for (int before : new int[] {0, 2, 2}) {
            house.draw(0, before, 0);
            Check.due("bars", house.draw(0, 2, 0), 0);
            Check.due("bends", house.judge(0, 4), 6);
            for (int e = 0; e < 3; e++) {
                Check.due("bends of edge " + e, house.at(0, 2, e, 0), 2);
            }
        }
        Check.due("layers", house.draw(0, 0, 0), 0);
        Check.due("layers again", house.draw(0, 0, 0), 0);
        Check.due("one joint", house.judge(0, 4), 1);
    }

    /** Below c five stand side by side: the first is to the left of b, and of all. */
    private static void theLeastXOfATree() {
        String tree = "a-b;a-c;c-d;c-e;c-f;c-g;c-h;";
        text(tree, 3, -1, "a 6 0\nb 4 4\nc 8 4\nd 0 8\ne 4 8\nf 8 8\ng 12 8\nh 16 8\n0 1\n0 2\n2 3\n2 4\n2 5\n2 6\n2 7\n");
        text("node x;" + tree, 3, 0, "x 2 0\na 6 0\nb 4 4\nc 8 4\nd 0 8\ne 4 8\nf 8 8\ng 12 8\nh 16 8\n1 2\n1 3\n3 4\n3 5\n3 6\n3 7\n3 8\n");
    }

    private static void childrenByNumber() {
        text("c-a;c-b;c-d;", 3, 0, "c 4 0\na 0 4\nb 4 4\nd 8 4\n0 1\n0 2\n0 3\n");
        text(Check.nodes(4) + "c-d;c-b;c-a;", 3, 2, "a 0 4\nb 4 4\nc 4 0\nd 8 4\n2 3\n2 1\n2 0\n");
    }

    private static void rectangle(String graph, int side, int what, int i, String want) {
        DrawingHouse house = drawn(graph, 4, side);
        StringBuilder row = new StringBuilder();
        for (int k = 0; k < 4; k++) {
            row.append(k == 0 ? "" : " ").append(house.told(0, what + k, i));
        }
        Check.due("rectangle " + i + " of " + graph, row.toString(), want);
    }

    /** A row of one of two equal ones is 2 to 1, as are both in a row: that is not above it. With 9 and 8 it is. */
    private static void shapesThatAreNotWorse() {
        rectangle("node a[size=9];node b[size=9];", 8, 6, 0, "0 0 4 8");
        rectangle("node a[size=9];node b[size=9];", 8, 6, 1, "4 0 4 8");
        rectangle("node a[size=9];node b[size=8];", 8, 6, 0, "0 0 8 4");
        rectangle("node a[size=9];node b[size=8];", 8, 6, 1, "0 4 8 4");
        rectangle("node a[size=99];node b[size=98];", 512, 6, 1, "0 257 512 255");
    }

    /** Of equal sides the row is at the top, as it is where the width is the shorter one; else at the left. */
    private static void sidesThatAreEqual() {
        String four = Check.nodes(4);
        String[] want = {"0 0 4 4", "4 0 5 4", "0 4 4 5", "4 4 5 5"};
        for (int i = 0; i < 4; i++) {
            rectangle(four, 9, 6, i, want[i]);
        }
        // Below the row of a and b there are 9 times 3 left, wider than high: c's row is at the left, all of it.
        rectangle(Check.nodes(3), 9, 6, 0, "0 0 4 6");
        rectangle(Check.nodes(3), 9, 6, 1, "4 0 5 6");
        rectangle(Check.nodes(3), 9, 6, 2, "0 6 9 3");
    }

    /** Greater ones come first, equal ones as they were: groups, then nodes. */
    private static void itemsOfEqualSize() {
        rectangle("node a[size=8];node b[size=9];", 8, 6, 0, "0 4 8 4");
        rectangle("node a[size=8];node b[size=9];", 8, 6, 1, "0 0 8 4");
        String graph = "node c;group g{node a;}group h{node b;}";
        rectangle(graph, 9, 10, 1, "0 0 4 6");
        rectangle(graph, 9, 10, 2, "4 0 5 6");
        rectangle(graph, 9, 6, 0, "0 6 9 3");
        rectangle(graph, 9, 6, 1, "0 0 4 6");
    }

    private static void groupsThatBecomeEmpty() {
        DrawingHouse house = drawn("group g{node a;}group h{node b;}", 4, 8);
        Check.due("its width", house.told(0, 12, 1), 4);
        house.change(0, 6, 0, 2);
        Check.due("a has gone to h", house.draw(0, 4, 8), 0);
        for (int what = 10; what <= 13; what++) {
            Check.due("of the empty one, " + what, house.told(0, what, 1), 0);
        }
        Check.due("h is all of it", house.told(0, 12, 2) * 10 + house.told(0, 13, 2), 88);
        house.back(0, 0);
        house.draw(0, 4, 8);
        Check.due("its width again", house.told(0, 12, 1), 4);
    }

    /** Of several orders without crossings the first as a row counts: a, b, d, c, not a, c, b, d. */
    private static void placesOnTheRing() {
        text(Check.nodes(4), 5, 0, "a 0 0\nb 32 0\nc 32 32\nd 0 32\n");
        text(Check.nodes(4) + "a-c;b-d;", 5, 0, "a 0 0\nb 32 0\nc 0 32\nd 32 32\n0 2\n1 3\n");
        text(Check.nodes(4) + "a-c;b-d;a-b;c-d;", 5, 0, "a 0 0\nb 32 0\nc 0 32\nd 32 32\n0 2\n1 3\n0 1\n2 3\n");
    }

    private static void theBandOfAnotherGraph() {
        DrawingHouse house = drawn("a-b;a-c;a-d;a-e;", 7, 0);
        Check.due("band of a star", house.told(0, 5, 0), 3);
        house.change(0, 3, 0, 0);
        house.draw(0, 7, 0);
        Check.due("band without edges", house.told(0, 5, 0), 0);
        house.change(0, 1, 0, 3);
        house.draw(0, 7, 0);
        Check.due("band of an edge", house.told(0, 5, 0), 1);
    }

    /** Ahead of step 31 a and e are at one point, and others pull both of them: 65,536 each way is just enough. */
    private static void nodesThatMeetAndArePulledAway() {
        String graph = Check.nodes(5) + "c-a[weight=5];b-a[weight=9];e-b[weight=5];e-c[weight=9];d-c[weight=9];e-a[weight=9];d-a[weight=9];c-b[weight=9];";
        String edges = "2 0\n1 0\n4 1\n4 2\n3 2\n4 0\n3 0\n2 1\n";
        text(graph, 6, 31, "a 72 120\nb 76 116\nc 72 119\nd 81 110\ne 72 120\n" + edges);
        text(graph, 6, 32, "a 64 128\nb 84 108\nc 80 111\nd 89 102\ne 80 128\n" + edges);
        text(graph, 6, 33, "a 69 122\nb 78 113\nc 74 117\nd 84 107\ne 74 122\n" + edges);
    }
}
