import java.util.Random;

/** The bounds of points, routes, labels and the judge (PARTS 4 to 6, promises 18 and 20 to 23). */
public final class PointBoundsTest {
    private static final int NO_POINT = Integer.MIN_VALUE;
    private static final int MOST = 1000000;

    public static void main(String[] args) {
        pointsOfNodesAreBounded();
        pointsOfBendsAreBounded();
        nodesAndBendsThatThereAre();
        noDrawing();
        routesOver6000Points();
        routesFarFromTheMiddle();
        routesAreBoundedByTheMargin();
        routesOutOfAndIntoBoxes();
        routesWith24Bends();
        routesWithoutAWay();
        labelsOfWeightsAboveOne();
        labelsInNoBox();
        labelsAtNoLabel();
        boxesThatTouch();
        rulesOfOnePoint();
        rulesAtTheFarthestPoints();
        rulesOfPiecesWithoutLength();
        trianglesWithoutArea();
        allPiecesOnASmallGrid();
        allPiecesAtOneNode();
        bentEdgesOnASmallGrid();
        Check.end();
    }

    private static DrawingHouse placed(String graph, int... points) {
        DrawingHouse house = Check.house(graph);
        house.draw(0, 7, 0);
        for (int i = 0; i < points.length / 2; i++) {
            Check.due("put " + i, house.put(0, i, -1, points[2 * i], points[2 * i + 1]), true);
        }
        return house;
    }

    private static String bends(DrawingHouse house, int e) {
        StringBuilder row = new StringBuilder();
        for (int k = 0; k < house.at(0, 2, e, 0); k++) {
            row.append(house.at(0, 3, e, k)).append(',').append(house.at(0, 4, e, k)).append(' ');
        }
        return row.toString();
    }

    private static void pointsOfNodesAreBounded() {
        DrawingHouse house = placed("node a;node b;", 3, 4);
        for (int w : new int[] {MOST + 1, -MOST - 1, Integer.MAX_VALUE, Integer.MIN_VALUE}) {
            Check.due("x " + w, house.put(0, 0, -1, w, 0), false);
            Check.due("y " + w, house.put(0, 0, -1, 0, w), false);
            Check.due("it stays at x", house.at(0, 0, 0, 0), 3);
            Check.due("it stays at y", house.at(0, 1, 0, 0), 4);
        }
        for (int w : new int[] {MOST, -MOST, 0}) {
            Check.due("x " + w, house.put(0, 0, -1, w, -w), true);
            Check.due("is put at x", house.at(0, 0, 0, 0), w);
            Check.due("is put at y", house.at(0, 1, 0, 0), -w);
        }
        Check.due("the other one stays", house.at(0, 0, 1, 0), 0);
    }

    private static void pointsOfBendsAreBounded() {
        DrawingHouse house = Check.house("a>b>c>d;a>d;");
        house.draw(0, 0, 0);
        String before = bends(house, 3);
        for (int w : new int[] {MOST + 1, -MOST - 1, Integer.MAX_VALUE, Integer.MIN_VALUE}) {
            Check.due("x " + w, house.put(0, 3, 1, w, 0), false);
            Check.due("y " + w, house.put(0, 3, 1, 0, w), false);
        }
        Check.due("they stay", bends(house, 3), before);
        Check.due("bend 1", house.put(0, 3, 1, MOST, -MOST), true);
        Check.due("bend 0", house.put(0, 3, 0, -MOST, MOST), true);
        Check.due("bends", bends(house, 3), "-1000000,1000000 1000000,-1000000 ");
    }

    private static void nodesAndBendsThatThereAre() {
        DrawingHouse house = Check.house("a>b>c>d;a>d;");
        house.draw(0, 0, 0);
        String before = Check.text(house, 0, 1);
        for (int w : new int[] {-1, 4, Integer.MIN_VALUE, Integer.MAX_VALUE}) {
            Check.due("node " + w, house.put(0, w, -1, 1, 1), false);
            Check.due("a bend of edge " + w, house.put(0, w, 0, 1, 1), false);
        }
        for (int k : new int[] {-2, 2, Integer.MIN_VALUE, Integer.MAX_VALUE}) {
            Check.due("bend " + k, house.put(0, 3, k, 1, 1), false);
        }
        Check.due("an edge without bends", house.put(0, 0, 0, 1, 1), false);
        Check.due("none of them was put", Check.text(house, 0, 1), before);
        Check.due("the last node", house.put(0, 3, -1, 1, 1), true);
        Check.due("what its way told stays", house.told(0, 3, 3), 3);
    }

    private static void noDrawing() {
        DrawingHouse house = Check.house("a-b[weight=2];");
        Check.due("put", house.put(0, 0, -1, 0, 0), false);
        Check.due("route", house.route(0, 0), -1);
        Check.due("label", house.label(0, 0, 0), NO_POINT);
        Check.due("rule 8", house.judge(0, 8), -1);
        house.draw(0, 7, 0);
        Check.due("with one", house.put(0, 0, -1, 20, 0), true);
        house.change(0, 5, 0, 3);
        Check.due("put behind a change", house.put(0, 0, -1, 0, 0), false);
        Check.due("route behind a change", house.route(0, 0), -1);
        Check.due("label behind a change", house.label(0, 0, 0), NO_POINT);
        Check.due("rule 8 behind a change", house.judge(0, 8), -1);
    }

    /** With names of one byte the rectangle is wider by 9 and higher by 7 than the points are apart. */
    private static void routesOver6000Points() {
        Check.due("12 times 500", placed("a-b;", 0, 0, 3, 493).route(0, 0), 0);
        Check.due("500 times 12", placed("a-b;", 0, 0, 491, 5).route(0, 0), 0);
        Check.due("75 times 80", placed("a-b;", -33, -40, 33, 33).route(0, 0), 0);
        Check.due("17 times 353 are 6,001", placed("a-b;", 0, 0, 8, 346).route(0, 0), -2);
        Check.due("76 times 80", placed("a-b;", 0, 0, 67, 73).route(0, 0), -2);
        Check.due("75 times 81", placed("a-b;", 0, 0, 66, 74).route(0, 0), -2);
        // A name of eight bytes is as wide as 19 points; other nodes count, too.
        Check.due("a wide name: 75 times 80", placed("abcdefgh-b;", 0, 0, 59, 73).route(0, 0), 0);
        Check.due("a wide name: 76 times 80", placed("abcdefgh-b;", 0, 0, 60, 73).route(0, 0), -2);
        Check.due("a third node", placed("a-b;node c;", 0, 0, 1, 1, 66, 73).route(0, 0), 0);
        Check.due("a third node", placed("a-b;node c;", 0, 0, 1, 1, 66, 74).route(0, 0), -2);
        DrawingHouse house = placed("a-b;", 0, 0, 66, 73);
        house.route(0, 0);
        house.put(0, 1, -1, MOST, MOST);
        house.put(0, 0, -1, -MOST, -MOST);
        Check.due("far apart", house.route(0, 0), -2);
        Check.due("its bends stay", bends(house, 0), "66,0 ");
    }

    /** The least rectangle round all boxes, wherever they are, and wherever those of an earlier route were. */
    private static void routesFarFromTheMiddle() {
        int[] far = {0, 100, -100, MOST - 100, 100 - MOST};
        DrawingHouse house = placed("a-b;node c;", new int[6]);
        for (int dx : far) {
            for (int dy : far) {
                house.put(0, 0, -1, dx, dy);
                house.put(0, 1, -1, dx + 66, dy + 73);
                house.put(0, 2, -1, dx + 33, dy);
                Check.due("75 times 80 at " + dx + ", " + dy, house.route(0, 0), 0);
                String want = dx + "," + (dy + 73) + " ";
                Check.due("down, then to the right, as c is in between", bends(house, 0), want);
                house.put(0, 1, -1, dx + 67, dy + 73);
                Check.due("76 times 80", house.route(0, 0), -2);
                house.put(0, 1, -1, dx + 66, dy + 74);
                Check.due("75 times 81", house.route(0, 0), -2);
                Check.due("its bends stay", bends(house, 0), want);
            }
        }
    }

    private static void routesAreBoundedByTheMargin() {
        // A wall from y -4 to 4 is gone round at y 5, the box's edge and one more; ways further out are longer.
        DrawingHouse wall = placed("a-b;node c;node d;node e;", 0, 0, 12, 0, 6, 0, 6, 3, 6, -3);
        Check.due("round the wall", wall.route(0, 0), 0);
        Check.due("below it", bends(wall, 0), "0,5 12,5 ");
        // With d further down only the way above is short.
        wall.put(0, 3, -1, 6, 4);
        Check.due("round the wall", wall.route(0, 0), 0);
        Check.due("through the gap", bends(wall, 0), "0,2 12,2 ");
        wall.put(0, 3, -1, 6, 2);
        wall.put(0, 4, -1, 6, -5);
        Check.due("through the other gap", wall.route(0, 0), 0);
        Check.due("above c", bends(wall, 0), "0,-2 12,-2 ");
    }

    private static void routesOutOfAndIntoBoxes() {
        // Its own ends' boxes are no bar; another node's box is, to its very edge.
        DrawingHouse own = placed("a-b;", 0, 0, 1, 0);
        Check.due("within both boxes", own.route(0, 0), 0);
        Check.due("straight", bends(own, 0), "");
        DrawingHouse edge = placed("a-b;node c;", 0, 0, 20, 0, 10, 1);
        Check.due("c's box begins at y 0", edge.route(0, 0), 0);
        Check.due("above it", bends(edge, 0), "0,-1 20,-1 ");
        edge.put(0, 2, -1, 10, 2);
        Check.due("c's box begins at y 1", edge.route(0, 0), 0);
        Check.due("past it", bends(edge, 0), "");
        DrawingHouse covered = placed("a-b;node c;", 0, 0, 20, 0, 18, 1);
        Check.due("the head in c's box", covered.route(0, 0), -4);
        covered.put(0, 2, -1, 17, 0);
        Check.due("the head beside c's box", covered.route(0, 0), 0);
        covered.put(0, 2, -1, 18, -1);
        Check.due("the head at c's corner", covered.route(0, 0), -4);
        DrawingHouse same = placed("a-b;node c;", 5, 5, 5, 5, 5, 5);
        Check.due("no step is needed", same.route(0, 0), 0);
        Check.due("no bends", bends(same, 0), "");
    }

    private static void routesWith24Bends() {
        StringBuilder graph = new StringBuilder();
        for (int k = 0; k < 24; k++) {
            graph.append("node ").append((char) ('a' + k)).append(';');
        }
        DrawingHouse maze = placed(graph + "a-b;", 8, 1, 18, 22, 15, 3, 11, 15, 23, 21, 5, 16, 7, 3, 11, 8, 4, 2, 16, 16, 17, 3, 9, 19,
                13, 22, 13, 1, 9, 5, 18, 24, 17, 5, -2, 15, 6, 12, 9, -1, 20, 19, 0, 8, 13, 10, 5, 10);
        Check.due("24 bends", maze.route(0, 0), 0);
        Check.due("24 bends", maze.at(0, 2, 0, 0), 24);
        Check.due("the last one", maze.at(0, 3, 0, 23) != NO_POINT, true);
        Check.due("no 25th", maze.at(0, 3, 0, 24), NO_POINT);
        Check.due("the last one is put", maze.put(0, 0, 23, 7, -7), true);
        Check.due("no 25th is put", maze.put(0, 0, 24, 7, -7), false);
        String before = bends(maze, 0);
        // From a point one lower the way has one turn more.
        for (int[] at : new int[][] {{8, 2}, {7, 2}, {8, 0}, {9, 0}}) {
            maze.put(0, 0, -1, at[0], at[1]);
            Check.due("25 bends", maze.route(0, 0), -3);
            Check.due("its bends stay", bends(maze, 0), before);
        }
    }

    private static void routesWithoutAWay() {
        // Four boxes shut b in, above, below, left and right of it.
        DrawingHouse house = placed("a-b;node c;node d;node e;node f;", 0, 0, 20, 0, 20, -2, 20, 2, 16, 0, 24, 0);
        Check.due("shut in", house.route(0, 0), -4);
        Check.due("no bends came", bends(house, 0), "");
        house.put(0, 5, -1, 25, 0);
        Check.due("f's box is beside those of c and d", house.route(0, 0), -4);
        house.put(0, 5, -1, 26, 0);
        Check.due("there is a column between them", house.route(0, 0), 0);
        String before = bends(house, 0);
        Check.due("round d and in from the right", before, "0,4 23,4 23,0 ");
        house.put(0, 5, -1, 24, 0);
        Check.due("shut in again", house.route(0, 0), -4);
        Check.due("its bends stay", bends(house, 0), before);
        for (int e : new int[] {-1, 1, Integer.MIN_VALUE, Integer.MAX_VALUE}) {
            Check.due("edge " + e, house.route(0, e), -1);
        }
    }

    private static void labelsOfWeightsAboveOne() {
        for (int weight = 1; weight <= 9; weight++) {
            DrawingHouse house = placed("a-b[weight=" + weight + "];", 0, 0, 20, 0);
            Check.due("x of weight " + weight, house.label(0, 0, 0), weight == 1 ? NO_POINT : 10);
            Check.due("y of weight " + weight, house.label(0, 0, 1), weight == 1 ? NO_POINT : 0);
        }
        DrawingHouse down = placed("a-b[weight=2];", -21, -21, 0, 0);
        Check.due("x rounded down", down.label(0, 0, 0), -11);
        Check.due("y rounded down", down.label(0, 0, 1), -11);
        DrawingHouse far = placed("a-b[weight=2];", MOST, MOST, MOST - 21, MOST - 1);
        Check.due("far to the right", far.label(0, 0, 0), MOST - 11);
        Check.due("far down", far.label(0, 0, 1), MOST - 1);
    }

    /** A box of a name of one byte goes to 2 at each side, and to 1 above and below. */
    private static void labelsInNoBox() {
        Check.due("at the box's side", placed("a-b[weight=2];", 0, 0, 5, 0).label(0, 0, 0), NO_POINT);
        Check.due("beside both boxes", placed("a-b[weight=2];", 0, 0, 6, 0).label(0, 0, 0), 3);
        Check.due("at the box's lower side", placed("a-b[weight=2];", 0, 0, 0, 3).label(0, 0, 0), NO_POINT);
        Check.due("below it", placed("a-b[weight=2];", 0, 0, 0, 4).label(0, 0, 1), 2);
        Check.due("in a third one's corner", placed("a-b[weight=2];node c;", 0, 0, 20, 0, 12, 1).label(0, 0, 0), NO_POINT);
        Check.due("beside its corner", placed("a-b[weight=2];node c;", 0, 0, 20, 0, 13, 1).label(0, 0, 0), 10);
        Check.due("below its corner", placed("a-b[weight=2];node c;", 0, 0, 20, 0, 12, 2).label(0, 0, 0), 10);
    }

    private static void labelsAtNoLabel() {
        DrawingHouse cross = placed("a-b[weight=2];c-d[weight=2];e-f;g-h[weight=2];",
                0, 0, 20, 20, 0, 20, 20, 0, 10, 0, 10, 20, 0, 10, 20, 10);
        Check.due("the first has it", cross.label(0, 0, 0), 10);
        Check.due("the second has none", cross.label(0, 1, 0), NO_POINT);
        Check.due("weight 1", cross.label(0, 2, 0), NO_POINT);
        Check.due("the last has none", cross.label(0, 3, 1), NO_POINT);
        Check.due("the last one put one lower", cross.put(0, 7, -1, 20, 12), true);
        Check.due("has one", cross.label(0, 3, 1), 11);
        Check.due("the first one put elsewhere", cross.put(0, 1, -1, 30, 30), true);
        Check.due("leaves it to the second", cross.label(0, 1, 0), 10);
    }

    private static void boxesThatTouch() {
        // Names of one byte: 2 + 2 wide; of one and eight: 2 + 9.
        int[][] near = {{4, 0, 1}, {5, 0, 0}, {-4, 0, 1}, {-5, 0, 0}, {0, 2, 1}, {0, 3, 0}, {4, -2, 1}, {5, 2, 0}, {4, 3, 0}, {0, -3, 0}};
        for (int[] n : near) {
            Check.due("boxes at " + n[0] + ", " + n[1], placed("node a;node b;", 0, 0, n[0], n[1]).judge(0, 1), n[2]);
        }
        Check.due("a wide one", placed("node abcdefgh;node b;", 0, 0, 11, 0).judge(0, 1), 1);
        Check.due("beside a wide one", placed("node abcdefgh;node b;", 0, 0, 12, 0).judge(0, 1), 0);
    }

    private static void rules(String what, DrawingHouse house, long... want) {
        for (int rule = 0; rule < 10; rule++) {
            Check.due(what + ", rule " + rule, house.judge(0, rule), want[rule]);
        }
        for (int rule : new int[] {-1, 10, Integer.MIN_VALUE, Integer.MAX_VALUE}) {
            Check.due(what + ", rule " + rule, house.judge(0, rule), -1);
        }
    }

    private static void rulesOfOnePoint() {
        rules("one node", placed("node a;", -5, 9), 0, 0, 0, 0, 0, 0, 0, 1, 0, -1);
        StringBuilder full = new StringBuilder();
        for (int k = 0; k < 24; k++) {
            full.append((char) ('a' + k)).append('-').append((char) ('a' + (k + 1) % 24)).append(';');
        }
        for (int k = 0; k < 24; k++) {
            full.append((char) ('a' + k)).append('-').append((char) ('a' + (k + 2) % 24)).append(';');
        }
        // All 24 at one point: of 1,128 pairs of edges, 24 * 6 share a node there; each edge strikes 22 nodes.
        DrawingHouse house = placed(full.toString(), new int[48]);
        rules("24 at one point", house, 1128 - 144, 276, 48 * 22, 48, 0, 0, 276, 1, 0, 0);
    }

    private static void rulesAtTheFarthestPoints() {
        DrawingHouse house = placed("a-b;c-d;", -MOST, -MOST, MOST, MOST, -MOST, MOST, MOST, -MOST);
        rules("the longest cross", house, 1, 0, 0, 1, 0, 2, 0, 4000004000001L, 8000000, -1);
        house.put(0, 3, -1, -1, 0);
        Check.due("its end is beside the line", house.judge(0, 0), 0);
        house.put(0, 3, -1, 1, 0);
        Check.due("its end is beyond the line", house.judge(0, 0), 1);
        house.put(0, 3, -1, 0, 0);
        Check.due("its end is on the line", house.judge(0, 0), 1);
        Check.due("and the node strikes it", house.judge(0, 2), 1);
        DrawingHouse corner = placed("a-b-c-a;", -MOST, -MOST, MOST, -MOST, -MOST, MOST);
        Check.due("the greatest triangle", corner.judge(0, 9), 4000000000000L);
        Check.due("the longest sides", corner.judge(0, 8), 8000000);
    }

    private static void rulesOfPiecesWithoutLength() {
        // Both ends at one point: neither slanted nor downwards; it is a point that others may have.
        rules("an edge at one point", placed("a-b;", 3, 3, 3, 3), 0, 1, 0, 1, 0, 0, 1, 1, 0, -1);
        rules("on another edge", placed("a-b;c-d;", 5, 5, 5, 5, 0, 0, 10, 10), 1, 1, 2, 1, 0, 1, 1, 121, 20, -1);
        rules("beside it", placed("a-b;c-d;", 5, 6, 5, 6, 0, 0, 10, 10), 0, 1, 0, 1, 0, 1, 1, 121, 20, -1);
        rules("at their node", placed("a-b;a-c;", 5, 5, 5, 5, 30, 30), 0, 1, 1, 1, 0, 1, 1, 676, 50, -1);
    }

    private static void trianglesWithoutArea() {
        Check.due("in line", placed("a-b-c-a;", 0, 0, 5, 5, 9, 9).judge(0, 9), 0);
        Check.due("the least there is", placed("a-b-c-a;", 0, 0, 1, 0, 0, 1).judge(0, 9), 1);
        Check.due("no triangle", placed("a-b-c-d-a;", 0, 0, 1, 0, 1, 1, 0, 1).judge(0, 9), -1);
        Check.due("the least of two", placed("a-b-c-a;c-d-a;", 0, 0, 9, 0, 0, 9, 0, 2).judge(0, 9), 0);
        Check.due("the last of three", placed("a-b-c-a;c-d-e-c;a-e;", 0, 0, 9, 0, 0, 9, 2, 9, 1, 8).judge(0, 9), 2);
    }

    private static long cross(long ax, long ay, long bx, long by) {
        return ax * by - ay * bx;
    }

    private static boolean isOn(int[] p, int[] a, int[] b) {
        boolean inLine = cross(b[0] - a[0], b[1] - a[1], p[0] - a[0], p[1] - a[1]) == 0;
        long ahead = (long) (p[0] - a[0]) * (p[0] - b[0]) + (long) (p[1] - a[1]) * (p[1] - b[1]);
        return inLine && ahead <= 0;
    }

    /** Whether two pieces meet: by how far along each of them their lines do, or by an end that lies on the other one. */
    private static boolean meet(int[] a, int[] b, int[] c, int[] d) {
        long dx = b[0] - a[0];
        long dy = b[1] - a[1];
        long ex = d[0] - c[0];
        long ey = d[1] - c[1];
        long turn = cross(dx, dy, ex, ey);
        if (turn == 0) {
            return isOn(a, c, d) || isOn(b, c, d) || isOn(c, a, b) || isOn(d, a, b);
        }
        long sign = turn < 0 ? -1 : 1;
        long first = sign * cross(c[0] - a[0], c[1] - a[1], ex, ey);
        long second = sign * cross(c[0] - a[0], c[1] - a[1], dx, dy);
        return first >= 0 && first <= sign * turn && second >= 0 && second <= sign * turn;
    }

    /** Whether they meet elsewhere than at a node's point that both have. */
    private static boolean meetElsewhere(int[] a, int[] b, int[] c, int[] d, int[] node) {
        if (!meet(a, b, c, d)) {
            return false;
        }
        if (!isOn(node, a, b) || !isOn(node, c, d)) {
            return true;
        }
        // Both have the node's point: another one if an end of one that is not that point lies on the other one.
        int[][] ends = {a, b, c, d};
        boolean found = false;
        for (int k = 0; k < 4; k++) {
            boolean other = ends[k][0] != node[0] || ends[k][1] != node[1];
            found = found || other && (k < 2 ? isOn(ends[k], c, d) : isOn(ends[k], a, b));
        }
        return found;
    }

    private static int[] point(int k, int side) {
        return new int[] {k % side, k / side};
    }

    private static void allPiecesOnASmallGrid() {
        DrawingHouse house = null;
        for (int k = 0; k < 9 * 9 * 9 * 9; k++) {
            if (k % 80 == 0) {
                house = Check.house("a-b;c-d;");
                house.draw(0, 7, 0);
            }
            int[][] p = {point(k % 9, 3), point(k / 9 % 9, 3), point(k / 81 % 9, 3), point(k / 729, 3)};
            for (int i = 0; i < 4; i++) {
                house.put(0, i, -1, p[i][0], p[i][1]);
            }
            Check.due("pieces of grid " + k, house.judge(0, 0), meet(p[0], p[1], p[2], p[3]) ? 1 : 0);
        }
    }

    private static void allPiecesAtOneNode() {
        DrawingHouse house = null;
        for (int k = 0; k < 16 * 16 * 16; k++) {
            if (k % 100 == 0) {
                house = Check.house("a-b;c-a;");
                house.draw(0, 7, 0);
            }
            int[][] p = {point(k % 16, 4), point(k / 16 % 16, 4), point(k / 256, 4)};
            for (int i = 0; i < 3; i++) {
                house.put(0, i, -1, p[i][0], p[i][1]);
            }
            Check.due("pieces at a node " + k, house.judge(0, 0), meetElsewhere(p[0], p[1], p[2], p[0], p[0]) ? 1 : 0);
        }
    }

    /** Two rings of three whose last edges have a bend, with all points on a small grid. */
    private static void bentEdgesOnASmallGrid() {
        int[][] edges = {{0, 1}, {1, 2}, {2, 0}, {3, 4}, {4, 5}, {5, 3}};
        Random random = new Random(7);
        for (int run = 0; run < 2000; run++) {
            DrawingHouse house = Check.house("a>b>c>a;x>y>z>x;");
            house.draw(0, 0, 0);
            int[][] p = new int[8][];
            for (int i = 0; i < 8; i++) {
                p[i] = point(random.nextInt(25), 5);
                house.put(0, i < 6 ? i : 3 * i - 16, i < 6 ? -1 : 0, p[i][0], p[i][1]);
            }
            int[][][] way = new int[6][][];
            for (int e = 0; e < 6; e++) {
                int[] a = p[edges[e][0]];
                int[] b = p[edges[e][1]];
                way[e] = e == 2 ? new int[][] {a, p[6], b} : e == 5 ? new int[][] {a, p[7], b} : new int[][] {a, b};
            }
            Check.due("crossings of run " + run, house.judge(0, 0), crossings(edges, way, p));
            Check.due("struck nodes of run " + run, house.judge(0, 2), struck(edges, way, p));
            Check.due("upward edges of run " + run, house.judge(0, 3), upward(way));
        }
    }

    private static int crossings(int[][] edges, int[][][] way, int[][] p) {
        int found = 0;
        for (int e = 0; e < 6; e++) {
            for (int f = e + 1; f < 6; f++) {
                int[] node = e / 3 != f / 3 ? null : p[edges[e][1] == edges[f][0] ? edges[e][1] : edges[e][0]];
                for (int i = 0; i + 1 < way[e].length; i++) {
                    for (int j = 0; j + 1 < way[f].length; j++) {
                        int[][] q = {way[e][i], way[e][i + 1], way[f][j], way[f][j + 1]};
                        boolean meet = node == null ? meet(q[0], q[1], q[2], q[3]) : meetElsewhere(q[0], q[1], q[2], q[3], node);
                        found += meet ? 1 : 0;
                    }
                }
            }
        }
        return found;
    }

    private static int struck(int[][] edges, int[][][] way, int[][] p) {
        int found = 0;
        for (int e = 0; e < 6; e++) {
            for (int v = 0; v < 6; v++) {
                boolean on = false;
                for (int i = 0; i + 1 < way[e].length; i++) {
                    on = on || isOn(p[v], way[e][i], way[e][i + 1]);
                }
                found += on && v != edges[e][0] && v != edges[e][1] ? 1 : 0;
            }
        }
        return found;
    }

    private static int upward(int[][][] way) {
        int found = 0;
        for (int e = 0; e < 6; e++) {
            boolean up = false;
            for (int i = 0; i + 1 < way[e].length; i++) {
                up = up || way[e][i + 1][1] <= way[e][i][1];
            }
            found += up ? 1 : 0;
        }
        return found;
    }
}
