/**
 * The bounds of the ways to draw (PART 4, promises 17 to 19): what each refuses and what it still takes,
 * and where a way goes over from trying all orders to going step by step. Orders and crossings due here
 * were found by trying all orders, and by following the steps, apart from the class.
 */
public final class WayBoundsTest {
    private static final int[] FAR = {Integer.MIN_VALUE, Integer.MAX_VALUE};

    public static void main(String[] args) {
        waysAreEight();
        noWayWithoutNodes();
        oneNodeByEachWay();
        theFullestPlanarGraph();
        theFullestOfAll();
        theFullestLayers();
        aIsNotLookedAtByOthers();
        strongPartsOfSevenAndEight();
        layersOfSixAndSeven();
        sweepsAreTen();
        layersHave72Items();
        gridNeedsThreeNodesAndAPlane();
        barsNeedOneBlock();
        treesNeedNoRings();
        treesHangFromANodeOrNone();
        treePointsAreFourApart();
        areasAre8To512();
        areasOfNothing();
        aSideOfNothingCountsAsOne();
        ringsOfEightAndNine();
        forcesHave0To200Steps();
        forcesAreBoundedBySteps();
        nodesThatMeet();
        theMatrixOfFullAndEmptyGraphs();
        whatIsRefusedLeavesTheDrawing();
        anotherWayTakesItsPlace();
        Check.end();
    }

    private static int draw(String graph, int way, int a) {
        return Check.house(graph).draw(0, way, a);
    }

    private static DrawingHouse drawn(String graph, int way, int a) {
        DrawingHouse house = Check.house(graph);
        Check.due("draw " + way + " of " + graph, house.draw(0, way, a), 0);
        return house;
    }

    /** The nodes in the order of their x, of those with the same y. */
    private static String level(DrawingHouse house, int y) {
        StringBuilder row = new StringBuilder();
        int last = Integer.MIN_VALUE;
        for (int count = house.count(0, 0); count > 0; count--) {
            int best = -1;
            for (int i = 0; i < house.count(0, 0); i++) {
                int x = house.at(0, 0, i, 0);
                if (house.at(0, 1, i, 0) == y && x > last && (best == -1 || x < house.at(0, 0, best, 0))) {
                    best = i;
                }
            }
            if (best == -1) {
                break;
            }
            row.append((char) ('a' + best));
            last = house.at(0, 0, best, 0);
        }
        return row.toString();
    }

    private static void waysAreEight() {
        DrawingHouse house = Check.house("a-b-c-a;");
        int[] want = {0, 0, 0, -2, 0, 0, 0, 0};
        for (int way = 0; way < 8; way++) {
            Check.due("way " + way, house.draw(0, way, 8), want[way]);
        }
        for (int way : new int[] {-1, 8, Integer.MIN_VALUE, Integer.MAX_VALUE}) {
            Check.due("way " + way, house.draw(0, way, 8), -1);
            Check.due("the latest drawing stays", house.told(0, 0, 0), 7);
        }
        for (int g : new int[] {-1, 4, Integer.MIN_VALUE, Integer.MAX_VALUE}) {
            Check.due("place " + g, house.draw(g, 0, 8), -1);
        }
    }

    private static void noWayWithoutNodes() {
        DrawingHouse house = Check.house("group g{}");
        for (int way = 0; way < 8; way++) {
            for (int a : new int[] {0, -1, 8, 7, 513, 201}) {
                Check.due("way " + way + " with " + a, house.draw(0, way, a), -1);
            }
        }
        Check.due("no drawing came", house.told(0, 0, 0), -1);
    }

    private static void oneNodeByEachWay() {
        int[] want = {0, -3, -2, 0, 0, 0, 0, 0};
        int[] x = {0, 0, 0, 0, 4, 0, 0, 0};
        for (int way = 0; way < 8; way++) {
            DrawingHouse house = Check.house("node abcdefgh;");
            Check.due("one node by way " + way, house.draw(0, way, way == 3 ? 0 : 8), want[way]);
            Check.due("its x", house.at(0, 0, 0, 0), want[way] == 0 ? x[way] : Integer.MIN_VALUE);
            Check.due("its y", house.at(0, 1, 0, 0), want[way] == 0 ? x[way] : Integer.MIN_VALUE);
        }
    }

    /** 24 nodes and 48 edges: two rings of 12, one within the other, with a band of triangles between them. */
    private static void theFullestPlanarGraph() {
        StringBuilder text = new StringBuilder();
        for (int k = 0; k < 12; k++) {
            char in = (char) ('a' + k);
            char nextIn = (char) ('a' + (k + 1) % 12);
            char out = (char) ('A' + k);
            char nextOut = (char) ('A' + (k + 1) % 12);
            text.append(in).append('-').append(nextIn).append(';').append(out).append('-').append(nextOut).append(';');
            text.append(in).append('-').append(out).append(';').append(in).append('-').append(nextOut).append(';');
        }
        int[] want = {-2, 0, 0, -2, 0, 0, 0, 0};
        for (int way = 0; way < 8; way++) {
            DrawingHouse house = Check.house(text.toString());
            Check.due("edges", house.count(0, 1), 48);
            Check.due("way " + way, house.draw(0, way, 8), want[way]);
            if (way == 1) {
                Check.due("no crossings on the grid", house.judge(0, 0), 0);
                Check.due("no node on an edge", house.judge(0, 2), 0);
                Check.due("no bends", house.judge(0, 4), 0);
                Check.due("within 45 times 23", house.judge(0, 7) <= 45 * 23, true);
            }
            if (way == 2) {
                Check.due("two bends each", house.judge(0, 4), 96);
                Check.due("bends of the last edge", house.at(0, 2, 47, 0), 2);
                Check.due("no pieces aslant", house.judge(0, 5), 0);
            }
        }
    }

    /** 24 nodes and 48 edges that are not planar, in one strong part: what each way answers, and that all have points. */
    private static void theFullestOfAll() {
        StringBuilder text = new StringBuilder();
        for (int step : new int[] {1, 7}) {
            for (int k = 0; k < 24; k++) {
                text.append((char) ('a' + k)).append('>').append((char) ('a' + (k + step) % 24)).append(";");
            }
        }
        int[] want = {-2, -2, -2, -2, 0, 0, 0, 0};
        for (int way = 0; way < 8; way++) {
            DrawingHouse house = Check.house(text.toString());
            Check.due("edges", house.count(0, 1), 48);
            Check.due("way " + way, house.draw(0, way, way == 6 ? 200 : 512), want[way]);
            for (int i : new int[] {0, 23}) {
                Check.due("a point for node " + i, house.at(0, 0, i, 0) != Integer.MIN_VALUE, want[way] == 0);
            }
        }
    }

    /** Two layers of 12 with 48 edges between them: the judge, who knows points alone, counts the same crossings. */
    private static void theFullestLayers() {
        StringBuilder text = new StringBuilder(Check.nodes(24));
        for (int k = 0; k < 12; k++) {
            for (int step : new int[] {0, 3, 4, 9}) {
                text.append((char) ('a' + k)).append('>').append((char) ('m' + (k * 5 + step) % 12)).append(';');
            }
        }
        DrawingHouse house = drawn(text.toString(), 0, 0);
        Check.due("edges", house.count(0, 1), 48);
        Check.due("edges go over one layer each", house.told(0, 2, 0), 48);
        Check.due("the last node's layer", house.told(0, 3, 23), 1);
        Check.due("crossings", house.judge(0, 0), house.told(0, 1, 0));
        Check.due("boxes apart", house.judge(0, 1), 0);
    }

    private static void aIsNotLookedAtByOthers() {
        for (int way : new int[] {0, 1, 2, 5, 7}) {
            for (int a : FAR) {
                Check.due("way " + way + " with " + a, draw("a-b-c-a;", way, a), 0);
            }
        }
    }

    private static void turned(String graph, String want) {
        DrawingHouse house = drawn(graph, 0, 0);
        StringBuilder row = new StringBuilder();
        for (int e = 0; e < house.count(0, 1); e++) {
            row.append(house.told(0, 4, e));
        }
        Check.due("turned edges of " + graph, row.toString(), want);
    }

    /** With seven nodes the best order of all counts; with eight it is found step by step, here a worse one. */
    private static void strongPartsOfSevenAndEight() {
        turned(Check.nodes(7) + "g>d[weight=3];e>b[weight=3];c>a;a>f;f>e;d>a;c>g[weight=3];f>c;b>g;", "000100000");
        turned(Check.nodes(7) + "e>a[weight=2];b>e;c>b;e>f;g>c;d>e[weight=3];a>d[weight=3];g>d;b>d[weight=2];f>g;", "1001000000");
        turned(Check.nodes(8) + "c>g;f>c[weight=2];a>b;d>h;b>d;h>f[weight=2];g>e;g>f;e>a[weight=2];c>h;", "0000001101");
        turned(Check.nodes(8) + "e>a;d>c[weight=3];h>g[weight=2];f>e[weight=2];g>f[weight=2];b>d[weight=3];a>d[weight=3];a>b[weight=3];"
                + "b>g;c>a;g>c[weight=2];e>h[weight=3];", "100100000100");
        // Edges that lead out of the part, here to a and f, don't count in its order.
        turned(Check.nodes(10) + "b>a;i>h;j>g[weight=3];d>i[weight=2];j>d;c>e[weight=2];b>h;h>a[weight=3];e>g[weight=2];h>j[weight=2];"
                + "h>g[weight=3];g>f;c>b[weight=2];b>d;e>j;g>c[weight=2];", "0100001000000011");
        // A strong part of one node has no edge to turn, one of two can't be; edges that are not one-way go one way here.
        turned("a>b;b>c;", "00");
        turned("a-b-c-a;", "001");
    }

    /** With six items a layer the best orders of all count; with seven they are swept, here to worse ones. */
    private static void layersOfSixAndSeven() {
        DrawingHouse six = drawn(Check.nodes(9) + "a>h;a>g;b>d;c>g;c>f;a>i;a>e;", 0, 0);
        Check.due("crossings", six.told(0, 1, 0), 0);
        Check.due("layer 0", level(six, 0), "acb");
        Check.due("layer 1", level(six, 5), "ehigfd");
        DrawingHouse seven = drawn(Check.nodes(10) + "b>d;c>i;b>i;c>f;c>h;a>d;b>g;c>j;a>h;b>f;a>e;a>j;", 0, 0);
        Check.due("crossings", seven.told(0, 1, 0), 10);
        Check.due("layer 0", level(seven, 0), "abc");
        Check.due("layer 1", level(seven, 5), "edghjfi");
    }

    /** The tenth sweep is the first with 6 crossings; an eleventh would have 5. */
    private static void sweepsAreTen() {
        DrawingHouse house = drawn(Check.nodes(14) + "a>l;a>c;e>j;g>f;n>k;n>c;e>k;i>l;i>h;i>f;g>k;", 0, 0);
        Check.due("crossings", house.told(0, 1, 0), 6);
        Check.due("layer 0", level(house, 0), "abnigdem");
        Check.due("layer 1", level(house, 5), "clhkfj");
    }

    private static void layersHave72Items() {
        StringBuilder path = new StringBuilder();
        for (int k = 0; k < 23; k++) {
            path.append((char) ('a' + k)).append('>').append((char) ('b' + k)).append(';');
        }
        Check.due("24 nodes and 22 joints", draw(path + "a>x;", 0, 0), 0);
        Check.due("the most bends of layers", drawn(path + "a>x;", 0, 0).at(0, 2, 23, 0), 22);
        Check.due("24 nodes and 47 joints", draw(path + "a>x;a>v;a>g;", 0, 0), 0);
        Check.due("24 nodes and 48 joints", draw(path + "a>x;a>v;a>h;", 0, 0), 0);
        Check.due("24 nodes and 49 joints", draw(path + "a>x;a>v;a>i;", 0, 0), -2);
    }

    private static void gridNeedsThreeNodesAndAPlane() {
        Check.due("one node", draw("node a;", 1, 0), -3);
        Check.due("two nodes", draw("a-b;", 1, 0), -3);
        Check.due("three nodes", draw("node a;node b;node c;", 1, 0), 0);
        Check.due("K5", draw("a-b-c-d-e-a-c-e-b-d-a;", 1, 0), -2);
        Check.due("K5 without an edge", draw("a-b-c-d-e-a-c-e-b-d;", 1, 0), 0);
        Check.due("K3,3", draw("a-x;a-y;a-z;b-x;b-y;b-z;c-x;c-y;c-z;", 1, 0), -2);
        DrawingHouse alone = drawn(Check.nodes(24), 1, 0);
        Check.due("24 nodes without edges: no two at one point", alone.judge(0, 6), 0);
        Check.due("within 45 times 23", alone.judge(0, 7) <= 45 * 23, true);
        Check.due("no bends", alone.judge(0, 4), 0);
    }

    private static void barsNeedOneBlock() {
        Check.due("two nodes", draw("a-b;", 2, 0), -2);
        Check.due("three nodes", draw("a-b-c-a;", 2, 0), 0);
        Check.due("three nodes, not on a ring", draw("a-b-c;", 2, 0), -2);
        Check.due("another node", draw("a-b-c-a;node d;", 2, 0), -2);
        Check.due("another block", draw("a-b-c-a;c-d;", 2, 0), -2);
        Check.due("two rings that share a node", draw("a-b-c-a;c-d-e-c;", 2, 0), -2);
        Check.due("two parts", draw("a-b-c-a;d-e-f-d;", 2, 0), -2);
        Check.due("no edges", draw("node a;node b;node c;", 2, 0), -2);
        Check.due("K5", draw("a-b-c-d-e-a-c-e-b-d-a;", 2, 0), -2);
        Check.due("K5 without an edge", draw("a-b-c-d-e-a-c-e-b-d;", 2, 0), 0);
        StringBuilder ring = new StringBuilder();
        for (int k = 0; k < 24; k++) {
            ring.append((char) ('a' + k)).append('-').append((char) ('a' + (k + 1) % 24)).append(';');
        }
        DrawingHouse house = drawn(ring.toString(), 2, 0);
        Check.due("24 nodes on a ring: the last number", house.told(0, 15, 1), 23);
        Check.due("y of it", house.at(0, 1, 1, 0), 69);
        Check.due("x of edge 0", house.at(0, 3, 0, 0), -1);
        Check.due("x of the others", house.at(0, 3, 23, 1), 0);
    }

    private static void treesNeedNoRings() {
        Check.due("a ring", draw("a-b-c-a;", 3, -1), -2);
        Check.due("without its last edge", draw("a-b-c;", 3, -1), 0);
        Check.due("a ring in the second part", draw("a-b;c-d-e-c;", 3, 0), -2);
        Check.due("a ring by one-way edges", draw("a>b>c;a>c;", 3, -1), -2);
        Check.due("no edges", draw(Check.nodes(24), 3, -1), 0);
    }

    private static void treesHangFromANodeOrNone() {
        for (int a = -1; a < 3; a++) {
            DrawingHouse house = drawn("a-b-c;", 3, a);
            Check.due("the root of " + a, house.at(0, 1, Math.max(a, 0), 0), 0);
        }
        for (int a : new int[] {-2, 3, Integer.MIN_VALUE, Integer.MAX_VALUE}) {
            Check.due("from " + a, draw("a-b-c;", 3, a), -2);
        }
        DrawingHouse parts = drawn("a-b;c-d-e;f-g;", 3, 3);
        int[] y = {0, 4, 4, 0, 4, 0, 4};
        for (int i = 0; i < 7; i++) {
            Check.due("others hang from their least node: " + i, parts.at(0, 1, i, 0), y[i]);
        }
    }

    private static void treePointsAreFourApart() {
        DrawingHouse alone = drawn(Check.nodes(24), 3, -1);
        for (int i = 0; i < 24; i++) {
            Check.due("x of " + i, alone.at(0, 0, i, 0), 4 * i);
        }
        StringBuilder path = new StringBuilder();
        for (int k = 0; k < 23; k++) {
            path.append((char) ('a' + k)).append('-').append((char) ('b' + k)).append(';');
        }
        DrawingHouse deep = drawn(path.toString(), 3, -1);
        Check.due("the deepest", deep.at(0, 1, 23, 0), 92);
        Check.due("the least x is 0", deep.at(0, 0, 23, 0), 0);
        // Two children at 0 and 4, three of the second one at 0, 4, 8 under it: it stays over its middle one.
        String want = "a 2 0\nb 0 4\nc 4 4\nd 0 8\ne 4 8\nf 8 8\n0 1\n0 2\n2 3\n2 4\n2 5\n";
        Check.due("places", Check.text(drawn("a-b;a-c;c-d;c-e;c-f;", 3, -1), 0, 1), want);
        // The middle of 2 and 11 is rounded down; k, l and m, n are apart on their level, not c and p on theirs.
        String odd = "r 6 0\nc 2 4\np 11 4\nk 0 8\nl 4 8\nm 8 8\nn 14 8\ns 6 12\nt 10 12\nu 14 12\n"
                + "0 1\n0 2\n1 3\n1 4\n2 5\n2 6\n5 7\n5 8\n6 9\n";
        Check.due("places", Check.text(drawn("r-c;r-p;c-k;c-l;p-m;p-n;m-s;m-t;n-u;", 3, -1), 0, 1), odd);
    }

    private static void areasAre8To512() {
        DrawingHouse house = Check.house("a-b;");
        for (int a : new int[] {7, 513, 0, -1, -8, Integer.MIN_VALUE, Integer.MAX_VALUE}) {
            Check.due("areas of " + a, house.draw(0, 4, a), -2);
        }
        Check.due("no drawing", house.told(0, 0, 0), -1);
        for (int a : new int[] {8, 9, 511, 512}) {
            Check.due("areas of " + a, house.draw(0, 4, a), 0);
            Check.due("the whole", house.told(0, 12, 0), a);
            Check.due("its height", house.told(0, 13, 0), a);
            Check.due("the lower one's y and height", house.told(0, 7, 1) + house.told(0, 9, 1), a);
        }
    }

    private static void areasOfNothing() {
        // 23 nodes share a group of one hundredth: rectangles without width or height.
        StringBuilder text = new StringBuilder("node big[size=99];group small{group empty{}");
        for (int k = 1; k < 24; k++) {
            text.append("node ").append((char) ('a' + k)).append(';');
        }
        DrawingHouse house = drawn(text + "}group none{group inner{}}", 4, 8);
        int[] empty = {2, 3, 4};
        for (int i : empty) {
            for (int what = 10; what <= 13; what++) {
                Check.due("group " + i + " is empty, " + what, house.told(0, what, i), 0);
            }
        }
        // 8 * 99 / 122, rounded down, of the height are for the big one: its row is at the top.
        Check.due("big's width", house.told(0, 8, 0), 8);
        Check.due("big's height", house.told(0, 9, 0), 6);
        Check.due("small's y", house.told(0, 11, 1), 6);
        Check.due("small's height", house.told(0, 13, 1), 2);
        int none = 0;
        for (int i = 1; i < 24; i++) {
            none += house.told(0, 8, i) == 0 || house.told(0, 9, i) == 0 ? 1 : 0;
            Check.due("x of " + i, house.at(0, 0, i, 0) >= 0 && house.at(0, 0, i, 0) <= 8, true);
            Check.due("y of " + i, house.at(0, 1, i, 0) >= 6 && house.at(0, 1, i, 0) <= 8, true);
        }
        Check.due("some have no area", none > 0, true);
    }

    /** The group's rectangle is 1 wide and 0 high: its height counts as 1 in shapes, so that a has a row of its own. */
    private static void aSideOfNothingCountsAsOne() {
        DrawingHouse house = drawn("group g{node a[size=2];node b;}node c[size=99];node d[size=99];node e[size=99];node f[size=9];node h;", 4, 8);
        int[][] nodes = {{7, 7, 0, 0}, {7, 7, 1, 0}, {0, 0, 4, 5}, {4, 0, 4, 5}, {0, 5, 7, 3}, {7, 5, 1, 2}, {7, 7, 1, 1}};
        for (int i = 0; i < 7; i++) {
            for (int k = 0; k < 4; k++) {
                Check.due("rectangle of node " + i + ", " + k, house.told(0, 6 + k, i), nodes[i][k]);
            }
        }
        int[] group = {7, 7, 1, 0};
        for (int k = 0; k < 4; k++) {
            Check.due("rectangle of the group, " + k, house.told(0, 10 + k, 1), group[k]);
        }
        Check.due("a's point", house.at(0, 0, 0, 0) * 10 + house.at(0, 1, 0, 0), 77);
    }

    /** With eight nodes the best order of all counts; with nine nodes they are put in one by one, here to a worse one. */
    private static void ringsOfEightAndNine() {
        DrawingHouse eight = drawn(Check.nodes(8) + "h-g;c-a;c-b;h-e;f-b;d-c;h-a;e-d;e-c;e-a;h-f;", 5, 0);
        Check.due("crossings", eight.told(0, 14, 0), 1);
        ringed(eight, 0, 4, 3, 2, 1, 5, 6, 7);
        DrawingHouse nine = drawn(Check.nodes(9) + "f-a;h-g;h-e;i-e;h-c;g-c;i-b;f-e;g-b;e-c;c-a;b-a;", 5, 0);
        Check.due("crossings", nine.told(0, 14, 0), 4);
        ringed(nine, 0, 5, 8, 3, 4, 7, 2, 6, 1);
        DrawingHouse two = drawn("a-b;", 5, 0);
        ringed(two, 0, 1);
        // 24 nodes: corners at places 0, 6, 12, 18.
        DrawingHouse full = drawn(Check.nodes(24), 5, 0);
        Check.due("no crossings", full.told(0, 14, 0), 0);
        ringed(full, 0, 23, 22, 21, 20, 19, 18, 17, 16, 15, 14, 13, 12, 11, 10, 9, 8, 7, 6, 5, 4, 3, 2, 1);
    }

    /** The node of each place is where the square's side has come to. */
    private static void ringed(DrawingHouse house, int... order) {
        int side = 8 * order.length;
        for (int k = 0; k < order.length; k++) {
            int x = 0;
            int y = 0;
            for (int step = 0; step < 32 * k; step++) {
                x += step < side ? 1 : step >= 2 * side && step < 3 * side ? -1 : 0;
                y += step >= side && step < 2 * side ? 1 : step >= 3 * side ? -1 : 0;
            }
            Check.due("x of place " + k, house.at(0, 0, order[k], 0), x);
            Check.due("y of place " + k, house.at(0, 1, order[k], 0), y);
        }
    }

    private static void forcesHave0To200Steps() {
        DrawingHouse house = Check.house("a-b-c;");
        for (int a : new int[] {-1, 201, Integer.MIN_VALUE, Integer.MAX_VALUE}) {
            Check.due("steps: " + a, house.draw(0, 6, a), -2);
        }
        Check.due("no drawing", house.told(0, 0, 0), -1);
        Check.due("200 steps", house.draw(0, 6, 200), 0);
        Check.due("no steps", house.draw(0, 6, 0), 0);
        // Where they begin: 37 mod 64 * 64 / 16, 59 mod 64 * 64 / 16, and so on.
        Check.due("places", Check.text(house, 0, 1), "a 0 0\nb 148 236\nc 40 216\n0 1\n1 2\n");
    }

    /** The bound is 256 for steps 0 to 15, 128 for 16 to 31, 85 for 32 to 47; 21 for the last, step 199. */
    private static void forcesAreBoundedBySteps() {
        String graph = "a-b[weight=9];a-c;b-d;e-a;";
        forced(graph, 0, "0 148 40 188 80", "0 236 216 196 176");
        forced(graph, 1, "16 132 24 172 64", "16 220 200 212 160");
        forced(graph, 15, "80 68 31 66 89", "119 124 101 170 79");
        forced(graph, 16, "64 73 47 67 91", "103 140 109 154 89");
        forced(graph, 17, "72 65 39 63 93", "111 132 105 162 82");
        forced(graph, 31, "58 76 37 75 83", "111 132 103 159 89");
        forced(graph, 32, "66 68 29 78 82", "119 124 96 167 84");
        forced(graph, 33, "61 74 35 75 82", "113 129 102 162 89");
        forced(graph, 199, "65 71 30 88 78", "116 130 106 162 83");
        forced(graph, 200, "63 73 31 87 78", "114 131 107 161 84");
    }

    /** Ahead of step 17 nodes a and e are at one point: a, with the lesser number, goes to the left, e to the right. */
    private static void nodesThatMeet() {
        forced(Check.nodes(5) + "e-a[weight=9];", 17, "40 171 -21 269 40", "88 304 270 177 88");
        forced(Check.nodes(5) + "e-a[weight=9];", 18, "32 172 -24 273 48", "85 307 273 176 85");
        forced(Check.nodes(5) + "a-e[weight=9];", 20, "39 175 -29 280 39", "91 313 278 174 75");
        forced(Check.nodes(5) + "e>a[weight=8];", 40, "30 197 -76 338 46", "91 364 318 161 75");
        forced(Check.nodes(5) + "e-a[weight=9];", 80, "30 234 -152 427 44", "87 441 376 137 75");
    }

    private static void forced(String graph, int steps, String x, String y) {
        DrawingHouse house = drawn(graph, 6, steps);
        StringBuilder rowX = new StringBuilder();
        StringBuilder rowY = new StringBuilder();
        for (int i = 0; i < house.count(0, 0); i++) {
            rowX.append(i == 0 ? "" : " ").append(house.at(0, 0, i, 0));
            rowY.append(i == 0 ? "" : " ").append(house.at(0, 1, i, 0));
        }
        Check.due("x behind " + steps + " steps of " + graph, rowX.toString(), x);
        Check.due("y behind " + steps + " steps of " + graph, rowY.toString(), y);
    }

    private static void theMatrixOfFullAndEmptyGraphs() {
        DrawingHouse house = drawn(Check.nodes(24), 7, 0);
        Check.due("band without edges", house.told(0, 5, 0), 0);
        for (int i = 0; i < 24; i++) {
            Check.due("the other way round: " + i, house.at(0, 0, i, 0), 4 * (23 - i));
            Check.due("y is x", house.at(0, 1, i, 0), 4 * (23 - i));
        }
        StringBuilder star = new StringBuilder();
        for (int k = 1; k < 24; k++) {
            star.append("a-").append((char) ('a' + k)).append(';');
        }
        // b begins, then a, then all others: a is at place 22.
        DrawingHouse full = drawn(star.toString(), 7, 0);
        Check.due("the widest band", full.told(0, 5, 0), 22);
        Check.due("x of b", full.at(0, 0, 1, 0), 92);
        Check.due("x of a", full.at(0, 0, 0, 0), 88);
    }

    private static void whatIsRefusedLeavesTheDrawing() {
        String k5 = "a-b-c-d-e-a-c-e-b-d-a;";
        int[][] refused = {{1, 0, -2}, {2, 0, -2}, {3, 0, -2}, {4, 7, -2}, {4, 513, -2}, {6, -1, -2}, {6, 201, -2}, {8, 0, -1}, {-1, 0, -1}};
        for (int way : new int[] {0, 4, 5, 6, 7}) {
            DrawingHouse house = drawn(k5, way, 100);
            house.put(0, 2, -1, -7, 9);
            String before = Check.text(house, 0, 1);
            for (int[] r : refused) {
                Check.due("way " + r[0] + " behind " + way, house.draw(0, r[0], r[1]), r[2]);
            }
            Check.due("the way that it was", house.told(0, 0, 0), way);
            Check.due("the drawing that there was", Check.text(house, 0, 1), before);
        }
        DrawingHouse few = drawn("a-b;", 7, 0);
        Check.due("too few", few.draw(0, 1, 0), -3);
        Check.due("too few for bars", few.draw(0, 2, 0), -2);
        Check.due("no such root", few.draw(0, 3, 2), -2);
        Check.due("the way that it was", few.told(0, 0, 0), 7);
    }

    private static void anotherWayTakesItsPlace() {
        DrawingHouse house = drawn("a-b-c-a;", 2, 0);
        Check.due("bends of bars", house.at(0, 2, 0, 0), 2);
        for (int way : new int[] {1, 4, 5, 6, 7}) {
            Check.due("bars", house.draw(0, 2, 0), 0);
            Check.due("then way " + way, house.draw(0, way, 8), 0);
            Check.due("no bends", house.judge(0, 4), 0);
            Check.due("bars told that", house.told(0, 15, 0), -1);
        }
        house.draw(0, 2, 0);
        house.draw(0, 0, 0);
        Check.due("one joint", house.judge(0, 4), 1);
    }
}
