/** Promises 20 to 23: put, route, label, judge. */
public final class PointsTest {
    private static final int NO_POINT = Integer.MIN_VALUE;

    public static void main(String[] args) {
        pointsArePut();
        edgesAreLedAroundBoxes();
        routesAreRefused();
        labelsArePlaced();
        theJudgeCounts();
        theJudgeAndSharedNodes();
        Check.end();
    }

    /** A drawn graph whose nodes are put at the given points. */
    private static DrawingHouse placed(String graph, int... points) {
        DrawingHouse house = Check.house(graph);
        house.draw(0, 7, 0);
        for (int i = 0; i < points.length / 2; i++) {
            Check.due("put " + i, house.put(0, i, -1, points[2 * i], points[2 * i + 1]), true);
        }
        return house;
    }

    private static String bends(DrawingHouse house, int e) {
        StringBuilder row = new StringBuilder();
        for (int k = 0; k < house.at(0, 2, e, 0); k++) {
            row.append(house.at(0, 3, e, k)).append(',').append(house.at(0, 4, e, k)).append(' ');
        }
        return row.toString();
    }

    private static void judged(String what, DrawingHouse house, long... want) {
        for (int rule = 0; rule < want.length; rule++) {
            Check.due(what + ", rule " + rule, house.judge(0, rule), want[rule]);
        }
    }

    private static void pointsArePut() {
        DrawingHouse house = Check.house("a>b>c>a;");
        Check.due("no drawing", house.put(0, 0, -1, 0, 0), false);
        house.draw(0, 0, 0);
        Check.due("a node", house.put(0, 1, -1, -1000000, 1000000), true);
        Check.due("its x", house.at(0, 0, 1, 0), -1000000);
        Check.due("its y", house.at(0, 1, 1, 0), 1000000);
        Check.due("a bend", house.put(0, 2, 0, 17, -3), true);
        Check.due("bends", bends(house, 2), "17,-3 ");
        Check.due("what its way told is kept", house.told(0, 3, 1), 1);
        int[][] wrong = {
            {0, 3, -1, 0, 0}, {0, -1, -1, 0, 0}, {0, 0, 0, 0, 0}, {0, 2, 1, 0, 0}, {0, 2, -2, 0, 0}, {0, 3, 0, 0, 0}, {0, -1, 0, 0, 0},
            {0, 0, -1, 1000001, 0}, {0, 0, -1, 0, -1000001}, {0, 2, 0, Integer.MIN_VALUE, 0}, {0, 0, -1, 0, Integer.MAX_VALUE},
            {1, 0, -1, 0, 0}, {4, 0, -1, 0, 0}, {-1, 0, -1, 0, 0}, {0, 2, Integer.MAX_VALUE, 0, 0},
        };
        for (int[] w : wrong) {
            Check.due("put " + w[0] + " " + w[1] + " " + w[2], house.put(w[0], w[1], w[2], w[3], w[4]), false);
        }
        Check.due("nothing was put", house.at(0, 0, 0, 0), 4);
    }

    private static void edgesAreLedAroundBoxes() {
        DrawingHouse house = placed("a-b;c-d;a-c;b-d;", 0, 0, 20, 0, 10, 0, 10, 10);
        // Below or above c's box cost the same: down comes first.
        Check.due("around c", house.route(0, 0), 0);
        Check.due("bends", bends(house, 0), "0,2 20,2 ");
        Check.due("straight on", house.route(0, 1), 0);
        Check.due("no bends", bends(house, 1), "");
        // Down and left, or left and down: down is the first step.
        Check.due("a corner", house.route(0, 3), 0);
        Check.due("bends", bends(house, 3), "20,10 ");
        // One turn more would save nothing: right ahead of down.
        DrawingHouse corner = placed("a-b;", 0, 0, 5, 5);
        corner.route(0, 0);
        Check.due("right first", bends(corner, 0), "5,0 ");
        DrawingHouse same = placed("a-b;", 3, 3, 3, 3);
        Check.due("from a point to itself", same.route(0, 0), 0);
        Check.due("no bends", bends(same, 0), "");
        Check.due("old bends go", placedBend().route(0, 2), 0);
        // A way that leaves the boxes' rectangle by the margin of two.
        DrawingHouse wall = placed("a-b;node c;node d;node e;", 0, 0, 12, 0, 6, 0, 6, 3, 6, -3);
        Check.due("round the wall", wall.route(0, 0), 0);
        Check.due("bends", bends(wall, 0), "0,5 12,5 ");
    }

    private static DrawingHouse placedBend() {
        DrawingHouse house = Check.house("a>b>c>a;");
        house.draw(0, 0, 0);
        return house;
    }

    private static void routesAreRefused() {
        DrawingHouse house = Check.house("a-b;c-d;");
        Check.due("no drawing", house.route(0, 0), -1);
        house.draw(0, 7, 0);
        Check.due("no such edge", house.route(0, 2), -1);
        Check.due("edge -1", house.route(0, -1), -1);
        Check.due("edge MAX", house.route(0, Integer.MAX_VALUE), -1);
        Check.due("place 4", house.route(4, 0), -1);
        Check.due("place MIN", house.route(Integer.MIN_VALUE, 0), -1);
        // Boxes are 5 wide and 3 high, with margins 9 and 7: 12 * 500 points are just enough.
        DrawingHouse wide = placed("a-b;", 0, 0, 3, 493);
        Check.due("6,000 points", wide.route(0, 0), 0);
        wide.put(0, 1, -1, 3, 494);
        Check.due("6,012 points", wide.route(0, 0), -2);
        Check.due("its bends stay", bends(wide, 0), "3,0 ");
        wide.put(0, 1, -1, 1000000, -1000000);
        Check.due("far too many", wide.route(0, 0), -2);
        // The head is in the box of c.
        DrawingHouse covered = placed("a-b;node c;", 0, 0, 20, 0, 18, 1);
        Check.due("no way into a box", covered.route(0, 0), -4);
        // The tail is: its first step out of the box must not lead into it.
        DrawingHouse inside = placed("b-a;node c;", 20, 0, 0, 0, 18, 1);
        Check.due("no way out of its middle", inside.route(0, 0), 0);
        Check.due("bends", bends(inside, 0), "20,-1 0,-1 ");
        inside.put(0, 2, -1, 20, 0);
        Check.due("no way out of a box's middle", inside.route(0, 0), -4);
        aMazeHasTooManyBends();
    }

    private static void aMazeHasTooManyBends() {
        StringBuilder graph = new StringBuilder();
        for (int k = 0; k < 24; k++) {
            graph.append("node ").append((char) ('a' + k)).append(';');
        }
        DrawingHouse maze = placed(graph + "a-b;", 8, 1, 18, 22, 15, 3, 11, 15, 23, 21, 5, 16, 7, 3, 11, 8, 4, 2, 16, 16, 17, 3, 9, 19,
                13, 22, 13, 1, 9, 5, 18, 24, 17, 5, -2, 15, 6, 12, 9, -1, 20, 19, 0, 8, 13, 10, 5, 10);
        Check.due("a way with 24 bends", maze.route(0, 0), 0);
        String before = bends(maze, 0);
        Check.due("bends", maze.at(0, 2, 0, 0), 24);
        maze.put(0, 0, -1, 8, 2);
        Check.due("with more", maze.route(0, 0), -3);
        Check.due("its bends stay", bends(maze, 0), before);
    }

    private static void labelsArePlaced() {
        DrawingHouse house = Check.house("a-b[weight=2];c-d[weight=3];a-d;b-c[weight=9];");
        Check.due("no drawing", house.label(0, 0, 0), NO_POINT);
        house.draw(0, 7, 0);
        int[] points = {0, 0, 21, -5, 0, -5, 21, 0};
        for (int i = 0; i < 4; i++) {
            house.put(0, i, -1, points[2 * i], points[2 * i + 1]);
        }
        // The middles of a-b and c-d are the same point: 10.5 and -2.5 rounded down.
        Check.due("x", house.label(0, 0, 0), 10);
        Check.due("y", house.label(0, 0, 1), -3);
        Check.due("no free point", house.label(0, 1, 0), NO_POINT);
        Check.due("weight 1", house.label(0, 2, 1), NO_POINT);
        Check.due("level", house.label(0, 3, 1), -5);
        // With bends the next piece is tried.
        Check.due("led anew", house.route(0, 1), 0);
        Check.due("bends", bends(house, 1), "18,-5 18,0 ");
        Check.due("the first piece's middle", house.label(0, 1, 0), 9);
        Check.due("the first piece's middle", house.label(0, 1, 1), -5);
        Check.due("beside it", house.label(0, 3, 0), 10);
        house.put(0, 1, 0, 20, -5);
        Check.due("now at that place", house.label(0, 1, 0), 10);
        Check.due("a later label gives way", house.label(0, 3, 0), NO_POINT);
        // The first piece's middle in a box, the second one's (10, -3) taken, the third one's in a box.
        house.put(0, 1, 0, 2, -5);
        Check.due("no free point", house.label(0, 1, 0), NO_POINT);
        house.put(0, 1, 1, 18, 2);
        Check.due("the second piece's middle", house.label(0, 1, 0), 10);
        Check.due("the second piece's middle", house.label(0, 1, 1), -2);
        int[] wrong = {-1, 4, Integer.MIN_VALUE, Integer.MAX_VALUE};
        for (int w : wrong) {
            Check.due("label of " + w, house.label(0, w, 0), NO_POINT);
            Check.due("label, what " + w, house.label(0, 0, w), NO_POINT);
            Check.due("label in " + w, house.label(w, 0, 0), NO_POINT);
        }
        Check.due("in a box", placed("a-b[weight=2];", 0, 0, 4, 0).label(0, 0, 0), NO_POINT);
        Check.due("out of boxes", placed("a-b[weight=2];", 0, 0, 6, 0).label(0, 0, 0), 3);
    }

    private static void theJudgeCounts() {
        DrawingHouse none = Check.house("a-b;");
        Check.due("no drawing", none.judge(0, 0), -1);
        DrawingHouse house = placed("a-b;c-d;a-c;b-d;", 0, 0, 20, 0, 10, 0, 10, 10);
        // a-b goes over c and along a-c; it and a-c are level.
        judged("four nodes", house, 2, 0, 1, 2, 0, 1, 0, 231, 60, -1);
        house.route(0, 0);
        house.route(0, 3);
        // Now a-b crosses c-d and b-d once each, and shares a-c's end alone: its own first piece goes down.
        judged("led around", house, 3, 0, 0, 3, 3, 0, 0, 231, 64, -1);
        int[] wrong = {-1, 10, Integer.MIN_VALUE, Integer.MAX_VALUE};
        for (int w : wrong) {
            Check.due("rule " + w, house.judge(0, w), -1);
            Check.due("place " + w, house.judge(w, 0), -1);
        }
        judged("one node", placed("node a;", 5, 5), 0, 0, 0, 0, 0, 0, 0, 1, 0, -1);
        judged("at one point", placed("a-b;c-d;", 1, 1, 1, 1, 1, 1, 1, 1), 1, 6, 4, 2, 0, 0, 6, 1, 0, -1);
        // Boxes: 2 + 2 wide, 1 + 1 high; touching ones have a point in common.
        Check.due("touching", placed("node a;node b;", 0, 0, 4, 2).judge(0, 1), 1);
        Check.due("beside", placed("node a;node b;", 0, 0, 5, 0).judge(0, 1), 0);
        Check.due("above", placed("node a;node b;", 0, 0, 0, 3).judge(0, 1), 0);
        // The greatest numbers need 64 bits.
        DrawingHouse far = placed("a-b-c-a;", -1000000, -1000000, 1000000, 1000000, 1000000, -1000000);
        judged("far apart", far, 0, 0, 0, 2, 0, 1, 0, 4000004000001L, 8000000, 4000000000000L);
        DrawingHouse flat = placed("a-b-c-a;c-d-b;", 0, 0, 10, 0, 5, 5, 8, 3);
        Check.due("twice the least area", flat.judge(0, 9), 5);
    }

    private static void theJudgeAndSharedNodes() {
        Check.due("they meet at their node", placed("a-b;a-c;", 0, 0, 5, 5, 5, -5).judge(0, 0), 0);
        Check.due("they lie along each other", placed("a-b;a-c;", 0, 0, 5, 5, 9, 9).judge(0, 0), 1);
        Check.due("straight on", placed("a-b;a-c;", 0, 0, 5, 5, -5, -5).judge(0, 0), 0);
        Check.due("an end on the other one", placed("a-b;c-d;", 0, 0, 10, 0, 5, 0, 5, 7).judge(0, 0), 1);
        Check.due("side by side", placed("a-b;c-d;", 0, 0, 10, 0, 0, 1, 10, 1).judge(0, 0), 0);
        Check.due("in line, apart", placed("a-b;c-d;", 0, 0, 4, 0, 5, 0, 9, 0).judge(0, 0), 0);
        Check.due("other nodes at one point", placed("a-b;c-d;", 0, 0, 5, 5, 5, 5, 9, 0).judge(0, 0), 1);
        // The other ends of a-b and a-c are at one point: that is no node's point that both have.
        Check.due("two ends at one point", placed("a-b;a-c;", 0, 0, 5, 5, 5, 5).judge(0, 0), 1);
        Check.due("level is not downwards", placed("a-b;", 0, 0, 5, 0).judge(0, 3), 1);
        Check.due("downwards", placed("a-b;", 0, 0, 5, 1).judge(0, 3), 0);
        Check.due("from tail to head", placed("b-a;", 0, 0, 5, -1).judge(0, 3), 1);
    }
}
