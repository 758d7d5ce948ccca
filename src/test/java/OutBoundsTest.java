/** The bounds of texts and dots (PART 8, promises 26 to 29). */
public final class OutBoundsTest {
    public static void main(String[] args) {
        whatIsLeftOut();
        theLongestTextOfAGraph();
        textsAreReadAgain();
        bytesOfTheLatestText();
        textsThatAreNone();
        numbersOfDrawings();
        sidesAre1To64();
        dotsOfTheLatestPlane();
        onePoint();
        theFarthestPoints();
        colorsOfDots();
        linesAreRoundedDown();
        Check.end();
    }

    private static DrawingHouse placed(String graph, int... points) {
        DrawingHouse house = Check.house(graph);
        house.draw(0, 7, 0);
        for (int i = 0; i < points.length / 2; i++) {
            house.put(0, i, -1, points[2 * i], points[2 * i + 1]);
        }
        return house;
    }

    private static void whatIsLeftOut() {
        String[] graphs = {
            "", "", "node a;", "node a;\n", "node a[size=1];", "node a;\n", "node a[size=2];", "node a [size=2];\n",
            "node a[size=99];", "node a [size=99];\n", "a-b[weight=1];", "node a;\nnode b;\na - b;\n",
            "a>b[weight=2];", "node a;\nnode b;\na > b [weight=2];\n", "a-b[weight=9];", "node a;\nnode b;\na - b [weight=9];\n",
            "group g{}", "group g {\n}\n", "group g{group h{}}", "group g {\ngroup h {\n}\n}\n",
        };
        for (int k = 0; k < graphs.length; k += 2) {
            Check.due("text of " + graphs[k], Check.text(Check.house(graphs[k]), 0, 0), graphs[k + 1]);
        }
    }

    /** 24 names of eight bytes with sizes of two digits, 48 edges with weights, seven groups. */
    private static String longest() {
        StringBuilder text = new StringBuilder("group ggggggg1{group ggggggg2{group ggggggg3{group ggggggg4{}}}}");
        text.append("group ggggggg5{}group ggggggg6{}group ggggggg7{");
        for (int k = 0; k < 24; k++) {
            text.append("node nnnnnnn").append((char) ('a' + k)).append("[size=99];");
        }
        text.append("}");
        for (int k = 0; k < 48; k++) {
            text.append("nnnnnnn").append((char) ('a' + k % 24)).append(">nnnnnnn").append((char) ('a' + (k + 1 + k / 24) % 24));
            text.append(k % 16 == 0 ? "[weight=9];" : ";");
        }
        return text.toString();
    }

    private static void theLongestTextOfAGraph() {
        DrawingHouse house = Check.house(longest());
        Check.due("edges", house.count(0, 1), 48);
        for (int e = 0; e < 48; e++) {
            house.change(0, 5, e, 9);
        }
        // A group has 16 + 2 bytes more than its name's, a node 25, an edge 32.
        int want = 7 * (6 + 8 + 3 + 2) + 24 * (5 + 8 + 12) + 48 * (8 + 3 + 8 + 13);
        Check.due("bytes", house.text(0, 0), want);
        Check.due("its last byte", house.octet(want - 1), 10);
        Check.due("none behind it", house.octet(want), -1);
    }

    private static void textsAreReadAgain() {
        String text = "node e;\nnode f [size=99];\ngroup g {\nnode a [size=12];\ngroup in {\nnode b;\n}\n}\ngroup g {\n}\nb > a [weight=3];\ne - f;\n";
        DrawingHouse house = Check.house(text);
        Check.due("its own text", Check.text(house, 0, 0), text);
        Check.read(house, 1, longest());
        String once = Check.text(house, 1, 0);
        DrawingHouse other = Check.house(once);
        Check.due("a long one's", Check.text(other, 0, 0), once);
    }

    private static void bytesOfTheLatestText() {
        DrawingHouse house = Check.house("a-b;");
        for (int i : new int[] {0, -1, Integer.MIN_VALUE, Integer.MAX_VALUE}) {
            Check.due("no text yet, octet " + i, house.octet(i), -1);
        }
        Check.due("text", house.text(0, 0), 23);
        Check.due("first", house.octet(0), 'n');
        Check.due("last", house.octet(22), 10);
        for (int i : new int[] {-1, 23, 24, 3999, 4000, Integer.MIN_VALUE, Integer.MAX_VALUE}) {
            Check.due("octet " + i, house.octet(i), -1);
        }
        house.change(0, 2, 0, 0);
        Check.due("a change leaves it", house.octet(22), 10);
        Check.due("a shorter one", house.text(0, 0), 16);
        Check.due("has no byte 16", house.octet(16), -1);
        Check.due("one of no nodes", house.text(1, 0), 0);
        Check.due("has no byte 0", house.octet(0), -1);
    }

    private static void textsThatAreNone() {
        DrawingHouse house = Check.house("a-b;");
        house.text(0, 0);
        Check.due("no drawing", house.text(0, 1), -1);
        Check.due("no nodes, no drawing", house.text(1, 1), -1);
        for (int w : new int[] {-1, 2, Integer.MIN_VALUE, Integer.MAX_VALUE}) {
            Check.due("what " + w, house.text(0, w), -1);
            Check.due("place " + (w == 2 ? 4 : w), house.text(w == 2 ? 4 : w, 0), -1);
        }
        Check.due("the latest one stays", Check.written(house), "node a;\nnode b;\na - b;\n");
        house.draw(0, 7, 0);
        Check.due("with a drawing", house.text(0, 1), 16);
        house.change(0, 4, 0, 1);
        Check.due("a change takes it away", house.text(0, 1), -1);
        Check.due("the latest one stays", house.octet(0), 'a');
    }

    private static void numbersOfDrawings() {
        int[] numbers = {0, 1, -1, 9, 10, -10, 99, 100, -100, 999, 1000, 9999, 10000, -99999, 100000, 999999, -999999, 1000000, -1000000};
        for (int n : numbers) {
            DrawingHouse house = placed("node abcdefgh;", n, -n);
            Check.due("text of " + n, Check.text(house, 0, 1), "abcdefgh " + n + " " + -n + "\n");
        }
        DrawingHouse house = Check.house("a>b>c>d;a>d;");
        house.draw(0, 0, 0);
        for (int i = 0; i < 4; i++) {
            house.put(0, i, -1, i, 10 * i);
        }
        house.put(0, 3, 0, -1000000, 0);
        house.put(0, 3, 1, 7, 1000000);
        Check.due("bends", Check.text(house, 0, 1), "a 0 0\nb 1 10\nc 2 20\nd 3 30\n0 1\n1 2\n2 3\n0 3 -1000000 0 7 1000000\n");
    }

    private static void sidesAre1To64() {
        DrawingHouse house = placed("node a;node b;", 0, 0, 9, 9);
        int[][] sides = {{1, 1}, {1, 64}, {64, 1}, {64, 64}, {63, 2}};
        for (int[] s : sides) {
            Check.due("dots " + s[0] + ", " + s[1], house.dots(0, s[0], s[1]), s[0] == 1 && s[1] == 1 ? 1 : 2);
            Check.due("the first dot", house.dot(0, 0), 128);
            Check.due("the last dot", house.dot(s[0] - 1, s[1] - 1), 128);
            Check.due("beyond its width", house.dot(s[0], 0), -1);
            Check.due("beyond its height", house.dot(0, s[1]), -1);
        }
        for (int w : new int[] {0, 65, -1, Integer.MIN_VALUE, Integer.MAX_VALUE}) {
            Check.due("width " + w, house.dots(0, w, 5), -1);
            Check.due("height " + w, house.dots(0, 5, w), -1);
            Check.due("the plane stays", house.dot(62, 1), 128);
            Check.due("its width stays", house.dot(63, 1), -1);
        }
    }

    private static void dotsOfTheLatestPlane() {
        DrawingHouse house = placed("a-b;", 0, 0, 2, 1);
        for (int w : new int[] {0, -1, 63, Integer.MIN_VALUE, Integer.MAX_VALUE}) {
            Check.due("no plane yet, " + w, house.dot(w, 0), -1);
        }
        Check.due("no drawing there", house.dots(1, 3, 2), -1);
        Check.due("no plane came of it", house.dot(0, 0), -1);
        Check.due("dots", house.dots(0, 3, 2), 3);
        int[][] outside = {{3, 0}, {0, 2}, {-1, 0}, {0, -1}, {3, 2}, {Integer.MAX_VALUE, 0}, {0, Integer.MAX_VALUE},
            {Integer.MIN_VALUE, 0}, {0, Integer.MIN_VALUE}, {5, -1}, {-1, 1}};
        for (int[] o : outside) {
            Check.due("dot " + o[0] + ", " + o[1], house.dot(o[0], o[1]), -1);
        }
        Check.due("no drawing there", house.dots(1, 1, 1), -1);
        house.put(0, 0, -1, 50, 50);
        Check.read(house, 0, "");
        Check.due("it stays when the drawing goes", house.dot(2, 1), 128);
        Check.due("what is not drawn is 0", house.dot(2, 0), 0);
        DrawingHouse smaller = placed("a-b;", 0, 0, 9, 9);
        Check.due("a line", smaller.dots(0, 10, 10), 10);
        Check.due("a smaller plane", smaller.dots(0, 2, 2), 2);
        Check.due("all else is 0", smaller.dot(1, 0) + smaller.dot(0, 1), 0);
        Check.due("the larger one is gone", smaller.dot(2, 2), -1);
    }

    private static void onePoint() {
        DrawingHouse house = placed("a-b;", -7, 1000000, -7, 1000000);
        Check.due("dots", house.dots(0, 64, 64), 1);
        Check.due("at the beginning", house.dot(0, 0), 128);
        DrawingHouse level = placed("a-b;", 0, 5, 63, 5);
        Check.due("a level line", level.dots(0, 64, 64), 64);
        Check.due("in the first row", level.dot(63, 0), 128);
        Check.due("by its edge", level.dot(62, 0), 1);
        DrawingHouse near = placed("node a;node b;", 8, -3, 9, -4);
        Check.due("points one apart", near.dots(0, 64, 63), 2);
        Check.due("at the right side", near.dot(63, 0), 128);
        Check.due("at the lower side", near.dot(0, 62), 128);
    }

    private static void theFarthestPoints() {
        DrawingHouse house = placed("node a;node b;node c;node d;", -1000000, -1000000, 1000000, 1000000, 0, 0, 999999, -999999);
        Check.due("dots", house.dots(0, 64, 64), 4);
        Check.due("the least", house.dot(0, 0), 128);
        Check.due("the greatest", house.dot(63, 63), 128);
        Check.due("31.5 rounded down", house.dot(31, 31), 128);
        Check.due("just below the greatest, just above the least", house.dot(62, 0), 128);
        // Bends are points of the drawing, too.
        DrawingHouse bent = Check.house("a>b>c>a;");
        bent.draw(0, 0, 0);
        int[] points = {0, 0, 1, 1, 2, 2};
        for (int i = 0; i < 3; i++) {
            bent.put(0, i, -1, points[2 * i], points[2 * i + 1]);
        }
        bent.put(0, 2, 0, 4, 4);
        Check.due("dots", bent.dots(0, 5, 5), 5);
        Check.due("the bend", bent.dot(4, 4), 1);
        Check.due("node c", bent.dot(2, 2), 128);
    }

    private static void colorsOfDots() {
        int[] colors = {0, 1, 2, 3, 254, 255};
        int[] ofNodes = {128, 128, 129, 129, 255, 255};
        for (int k = 0; k < colors.length; k++) {
            DrawingHouse house = placed("a-b;", 0, 0, 2, 0);
            Check.style(house, 0, "node if 1=1:color=" + colors[k] + ";edge if 1=1:color=" + colors[k] + ";");
            Check.due("dots", house.dots(0, 3, 1), 3);
            Check.due("an edge with color " + colors[k], house.dot(1, 0), 1 + colors[k]);
            Check.due("a node with color " + colors[k], house.dot(0, 0), ofNodes[k]);
        }
        // A later edge goes over an earlier one, a later node over an earlier one, nodes over edges.
        DrawingHouse over = placed("a-b;c-d;", 0, 0, 4, 0, 2, 0, 4, 0);
        Check.style(over, 0, "edge if from=0:color=10;edge if from=2:color=20;node if deg=1:color=2;");
        over.dots(0, 5, 1);
        int[] want = {129, 11, 129, 21, 129};
        for (int x = 0; x < 5; x++) {
            Check.due("dot " + x, over.dot(x, 0), want[x]);
        }
    }

    private static void linesAreRoundedDown() {
        // From (0, 0) to (4, 2) the rows are (2k * 2 + 4) / 8: 0, 1, 1, 2, 2; the other way round 2 + (-4k + 4) / 8: 2, 2, 1, 1, 0.
        rows("a-b;", new int[] {0, 0, 4, 2}, "0 1 1 2 2");
        rows("node a;node b;b-a;", new int[] {0, 0, 4, 2}, "0 1 1 2 2");
        rows("a-b;", new int[] {0, 2, 4, 0}, "2 2 1 1 0");
        rows("a-b;", new int[] {4, 0, 0, 2}, "2 2 1 1 0");
        rows("a-b;", new int[] {0, 0, 4, 1}, "0 0 1 1 1");
        rows("a-b;", new int[] {0, 1, 4, 0}, "1 1 1 0 0");
    }

    private static void rows(String graph, int[] points, String want) {
        DrawingHouse house = placed(graph, points);
        int high = Math.abs(points[3] - points[1]) + 1;
        Check.due("dots of a line", house.dots(0, 5, high), 5);
        StringBuilder row = new StringBuilder();
        for (int x = 0; x < 5; x++) {
            for (int y = 0; y < high; y++) {
                if (house.dot(x, y) != 0) {
                    row.append(x == 0 ? "" : " ").append(y);
                }
            }
        }
        Check.due("rows of a line", row.toString(), want);
    }
}
