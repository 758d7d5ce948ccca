/** Promises 17 to 19: draw by each way, at, told. */
public final class WaysTest {
    private static final String K4 = "a-b-c-d-a-c;b-d;";

    public static void main(String[] args) {
        layers();
        layersWithSweeps();
        layersRefuse();
        grid();
        bars();
        trees();
        areas();
        ring();
        forces();
        matrix();
        wrongQuestions();
        Check.end();
    }

    /** Draws a graph and compares its drawing's text. */
    private static DrawingHouse drawn(String graph, int way, int a, String want) {
        DrawingHouse house = Check.house(graph);
        Check.due("draw " + way + " of " + graph, house.draw(0, way, a), 0);
        Check.due("drawing " + way + " of " + graph, Check.text(house, 0, 1), want);
        Check.due("way", house.told(0, 0, Integer.MIN_VALUE), way);
        return house;
    }

    private static void refused(String graph, int way, int a, int want) {
        DrawingHouse house = Check.house(graph);
        Check.due("draw " + way + " of " + graph, house.draw(0, way, a), want);
        Check.due("no drawing", house.told(0, 0, 0), -1);
        house.draw(0, 7, 0);
        house.draw(0, way, a);
        Check.due("the drawing that there was", house.told(0, 0, 0), 7);
    }

    private static void told(DrawingHouse house, int what, int... want) {
        for (int i = 0; i < want.length; i++) {
            Check.due("told " + what + " of " + i, house.told(0, what, i), want[i]);
        }
        Check.due("told " + what + " of -1", house.told(0, what, -1), -1);
        Check.due("told " + what + " of " + want.length, house.told(0, what, want.length), -1);
    }

    private static void layers() {
        DrawingHouse ring = drawn("a>b>c>a;", 0, 0, "a 4 0\nb 0 5\nc 4 10\n0 1\n1 2\n2 0 4 5\n");
        told(ring, 3, 0, 1, 2);
        told(ring, 4, 0, 0, 1);
        Check.due("crossings", ring.told(0, 1, 99), 0);
        Check.due("1 + 1 + 2", ring.told(0, 2, -99), 4);
        Check.due("bend of the turned edge", ring.at(0, 4, 2, 0), 5);
        // x goes next to c, so that its edge is short.
        told(drawn("a>b;b>c;a>c;x>c;", 0, 0, "a 10 0\nb 0 5\nc 6 10\nx 6 5\n0 1\n1 2\n0 2 10 5\n3 2\n"), 3, 0, 1, 2, 1);
        // The edge with weight 3 is not turned; a turned one's bends go from its tail, below, upwards.
        told(drawn("a>b[weight=3];b>c>a;c>b2;b2>a;", 0, 0,
                "a 3 10\nb 3 15\nc 5 0\nb2 0 5\n0 1\n1 2 7 10 7 5\n2 0 5 5\n2 3\n3 0\n"), 4, 0, 1, 0, 0, 0);
        DrawingHouse crossed = drawn("a-x;a-y;a-z;b-x;b-y;c-z;", 0, 0,
                "a 6 0\nx 0 5\ny 6 5\nz 12 5\nb 0 0\nc 12 0\n0 1\n0 2\n0 3\n4 1\n4 2\n5 3\n");
        Check.due("crossings", crossed.told(0, 1, 0), 1);
        // A strong part with eight nodes is put in order node by node.
        told(drawn("a>b>c>d>e>f>g>h>a;c>a;h>c[weight=5];", 0, 0,
                "a 2 5\nb 0 10\nc 6 15\nd 6 20\ne 6 25\nf 6 30\ng 10 35\nh 6 0\n0 1\n1 2\n2 3\n3 4\n4 5\n5 6\n"
                + "6 7 10 30 10 25 10 20 10 15 10 10 10 5\n7 0\n2 0 4 10\n7 2 6 5 6 10\n"), 4, 0, 0, 0, 0, 0, 0, 1, 0, 1, 0);
        // Boxes are wider for longer names: 6 + 6 + 2 from one to the next.
        drawn("long1-q;long2-q;long3-q;", 0, 0, "long1 0 0\nq 14 5\nlong2 14 0\nlong3 28 0\n0 1\n2 1\n3 1\n");
        drawn("node only;", 0, 0, "only 0 0\n");
    }

    private static void layersWithSweeps() {
        DrawingHouse house = drawn("r-a;r-b;r-c;r-d;r-e;r-f;r-g;a-z;g-y;d-x;c-y;b-z;", 0, 0,
                "r 18 0\na 0 5\nb 6 5\nc 18 5\nd 12 5\ne 30 5\nf 36 5\ng 24 5\nz 0 10\ny 18 10\nx 12 10\n"
                + "0 1\n0 2\n0 3\n0 4\n0 5\n0 6\n0 7\n1 8\n7 9\n4 10\n3 9\n2 8\n");
        Check.due("crossings", house.told(0, 1, 0), 0);
    }

    private static void layersRefuse() {
        // A path of 24 nodes and edges over many layers: more than 72 nodes and joints.
        StringBuilder path = new StringBuilder();
        for (int k = 0; k < 23; k++) {
            path.append((char) ('a' + k)).append('>').append((char) ('b' + k)).append(';');
        }
        Check.due("22 joints", Check.house(path + "a>x;").draw(0, 0, 0), 0);
        Check.due("24 nodes and 42 joints", Check.house(path + "a>x;a>v;").draw(0, 0, 0), 0);
        Check.due("24 nodes and 48 joints", Check.house(path + "a>x;a>v;a>h;").draw(0, 0, 0), 0);
        refused(path + "a>x;a>v;a>i;", 0, 0, -2);
    }

    private static void grid() {
        drawn(K4, 1, 0, "a 0 2\nb 4 2\nc 2 1\nd 2 0\n0 1\n1 2\n2 3\n3 0\n0 2\n1 3\n");
        drawn("a-b-c-a;c-d;", 1, 0, "a 0 2\nb 4 2\nc 2 0\nd 2 1\n0 1\n1 2\n2 0\n2 3\n");
        drawn("node a;node b;node c;", 1, 0, "a 0 1\nb 2 1\nc 1 0\n");
        drawn("a-b;c-d;node e;", 1, 0, "a 0 3\nb 6 3\nc 4 2\nd 3 0\ne 3 1\n0 1\n2 3\n");
        drawn("a-b-c-d-e-a;c-e;a-c;", 1, 0, "a 0 3\nb 6 3\nc 4 2\nd 3 0\ne 3 1\n0 1\n1 2\n2 3\n3 4\n4 0\n2 4\n0 2\n");
        refused("a-b-c-d-e-a-c-e-b-d-a;", 1, 0, -2);
        refused("a-b;", 1, 0, -3);
        // A large one has no crossings, and no node on an edge.
        StringBuilder wheel = new StringBuilder();
        for (int k = 1; k < 24; k++) {
            wheel.append("a-").append((char) ('a' + k)).append(';');
            wheel.append((char) ('a' + k)).append('-').append((char) ('a' + (k == 23 ? 1 : k + 1))).append(';');
        }
        DrawingHouse house = Check.house(wheel.toString());
        Check.due("a wheel", house.draw(0, 1, 0), 0);
        Check.due("crossings", house.judge(0, 0), 0);
        Check.due("nodes on edges", house.judge(0, 2), 0);
        Check.due("bends", house.judge(0, 4), 0);
        Check.due("least y", house.judge(0, 7) <= 45 * 23, true);
    }

    private static void bars() {
        told(drawn("a-b-c-a;", 2, 0, "a -1 0\nb -1 6\nc 0 3\n0 1 -1 0 -1 6\n1 2 0 6 0 3\n2 0 0 3 0 0\n"), 15, 0, 2, 1);
        told(drawn(K4, 2, 0, "a 0 0\nb 0 9\nc 0 6\nd 1 3\n0 1 -1 0 -1 9\n1 2 0 9 0 6\n2 3 1 6 1 3\n3 0 1 3 1 0\n"
                + "0 2 0 0 0 6\n1 3 2 9 2 3\n"), 15, 0, 3, 2, 1);
        told(drawn("a-b-c-d-e-f-a;b-e;c-f;", 2, 0,
                "a -1 0\nb 0 15\nc 0 6\nd 1 9\ne 1 12\nf 1 3\n0 1 -1 0 -1 15\n1 2 0 15 0 6\n2 3 1 6 1 9\n3 4 1 9 1 12\n"
                + "4 5 2 12 2 3\n5 0 0 3 0 0\n1 4 1 15 1 12\n2 5 0 6 0 3\n"), 15, 0, 5, 2, 3, 4, 1);
        refused("a-b;", 2, 0, -2);
        refused("a-b-c;", 2, 0, -2);
        refused("a-b-c-a;node d;", 2, 0, -2);
        refused("a-b-c-a;c-d;", 2, 0, -2);
        refused("a-b-c-d-e-a-c-e-b-d-a;", 2, 0, -2);
        refused("node a;node b;node c;", 2, 0, -2);
    }

    private static void trees() {
        String tree = "r-a;r-b;r-c;a-d;a-e;b-f;g-h;";
        drawn(tree, 3, -1, "r 7 0\na 2 4\nb 8 4\nc 12 4\nd 0 8\ne 4 8\nf 8 8\ng 16 0\nh 16 4\n0 1\n0 2\n0 3\n1 4\n1 5\n2 6\n7 8\n");
        drawn(tree, 3, 1, "r 2 4\na 6 0\nb 0 8\nc 4 8\nd 6 4\ne 10 4\nf 0 12\ng 14 0\nh 14 4\n0 1\n0 2\n0 3\n1 4\n1 5\n2 6\n7 8\n");
        drawn("node a;node b;node c;", 3, -1, "a 0 0\nb 4 0\nc 8 0\n");
        drawn("a-b-c-d;", 3, 1, "a 0 4\nb 2 0\nc 4 4\nd 4 8\n0 1\n1 2\n2 3\n");
        refused("a-b-c-a;", 3, 0, -2);
        refused("a-b;", 3, 2, -2);
        refused("a-b;", 3, -2, -2);
        refused("a-b;", 3, Integer.MAX_VALUE, -2);
    }

    private static void areas() {
        String four = "node a[size=4];node b[size=3];node c[size=2];node d;";
        DrawingHouse house = drawn(four, 4, 10, "a 2 3\nb 7 3\nc 3 8\nd 8 8\n");
        // 4 and 3 in a row at the top, 7 of 10 high; then 2 and 1.
        told(house, 6, 0, 5, 0, 6);
        told(house, 7, 0, 0, 7, 7);
        told(house, 8, 5, 5, 6, 4);
        told(house, 9, 7, 7, 3, 3);
        told(house, 12, 10);
        DrawingHouse groups = drawn("group g{node a[size=6];node b[size=6];}node c[size=4];node d[size=3];node e[size=2];"
                + "node f[size=2];node h;group k{}", 4, 20, "a 5 5\nb 15 5\nc 3 15\nd 8 15\ne 13 14\nf 17 14\nh 15 19\n");
        told(groups, 10, 0, 0, 0);
        told(groups, 11, 0, 0, 0);
        told(groups, 12, 20, 20, 0);
        told(groups, 13, 20, 10, 0);
        Check.due("8 is enough", house.draw(0, 4, 8), 0);
        Check.due("512 is not too much", house.draw(0, 4, 512), 0);
        refused(four, 4, 7, -2);
        refused(four, 4, 513, -2);
        refused(four, 4, Integer.MIN_VALUE, -2);
        refused(four, 4, Integer.MAX_VALUE, -2);
    }

    private static void ring() {
        Check.due("crossings", drawn("a-c;b-d;", 5, 0, "a 0 0\nc 32 0\nb 32 32\nd 0 32\n0 1\n2 3\n").told(0, 14, -5), 0);
        Check.due("K4", drawn(K4, 5, 0, "a 0 0\nb 32 0\nc 32 32\nd 0 32\n0 1\n1 2\n2 3\n3 0\n0 2\n1 3\n").told(0, 14, 0), 1);
        // With nine nodes and more, nodes are moved one by one.
        drawn("a-b;c-d;e-f;g-h;i-j;a-f;", 5, 0, "a 0 0\nb 32 0\nc 0 32\nd 0 64\ne 80 16\nf 64 0\ng 16 80\nh 48 80\n"
                + "i 80 80\nj 80 48\n0 1\n2 3\n4 5\n6 7\n8 9\n0 5\n");
        Check.due("ten nodes", drawn("a-b-c-d-e-f-g-h-i-j-a;a-f;b-h;c-i;", 5, 0,
                "a 0 0\nb 32 0\nc 64 0\nd 80 16\ne 80 48\nf 80 80\ng 48 80\nh 16 80\ni 0 64\nj 0 32\n"
                + "0 1\n1 2\n2 3\n3 4\n4 5\n5 6\n6 7\n7 8\n8 9\n9 0\n0 5\n1 7\n2 8\n").told(0, 14, 0), 3);
        drawn("node a;", 5, 0, "a 0 0\n");
    }

    private static void forces() {
        String graph = "a-b[weight=9];a-c;b-d;e-a;";
        String edges = "0 1\n0 2\n1 3\n4 0\n";
        drawn(graph, 6, 0, "a 0 0\nb 148 236\nc 40 216\nd 188 196\ne 80 176\n" + edges);
        drawn(graph, 6, 16, "a 64 103\nb 73 140\nc 47 109\nd 67 154\ne 91 89\n" + edges);
        drawn(graph, 6, 17, "a 72 111\nb 65 132\nc 39 105\nd 63 162\ne 93 82\n" + edges);
        drawn(graph, 6, 40, "a 66 119\nb 68 124\nc 29 102\nd 81 164\ne 82 84\n" + edges);
        Check.due("200 steps", Check.house(graph).draw(0, 6, 200), 0);
        refused(graph, 6, 201, -2);
        refused(graph, 6, -1, -2);
        refused(graph, 6, Integer.MIN_VALUE, -2);
    }

    private static void matrix() {
        Check.due("band", drawn("c-a;a-b;b-d;d-c;e-a;f-e;", 7, 0,
                "c 8 8\na 12 12\nb 4 4\nd 0 0\ne 16 16\nf 20 20\n0 1\n1 2\n2 3\n3 0\n4 1\n5 4\n").told(0, 5, 9), 2);
        Check.due("no edges", drawn("node a;node b;node c;", 7, 0, "a 8 8\nb 4 4\nc 0 0\n").told(0, 5, 0), 0);
    }

    private static void wrongQuestions() {
        DrawingHouse house = Check.house("a>b>c>a;");
        int[] wrong = {-1, 8, Integer.MIN_VALUE, Integer.MAX_VALUE};
        for (int w : wrong) {
            Check.due("way " + w, house.draw(0, w, 0), -1);
            Check.due("place " + w, house.draw(w, 0, 0), -1);
        }
        for (int way = 0; way < 8; way++) {
            Check.due("no nodes, way " + way, house.draw(1, way, 8), -1);
        }
        Check.due("nothing drawn", house.at(0, 0, 0, 0), Integer.MIN_VALUE);
        house.draw(0, 0, 0);
        for (int w : wrong) {
            Check.due("at " + w, house.at(0, w, 0, 0), Integer.MIN_VALUE);
            Check.due("at in " + w, house.at(w, 0, 0, 0), Integer.MIN_VALUE);
            for (int what = 0; what < 5; what++) {
                Check.due("at " + what + " of " + w, house.at(0, what, w, 0), Integer.MIN_VALUE);
            }
            Check.due("x of bend " + w, house.at(0, 3, 2, w), Integer.MIN_VALUE);
            Check.due("y of bend " + w, house.at(0, 4, 2, w), Integer.MIN_VALUE);
            Check.due("told " + w, house.told(0, w, 0), -1);
            Check.due("told in " + w, house.told(w, 0, 0), -1);
        }
        Check.due("k is not looked at", house.at(0, 0, 0, -9), 4);
        Check.due("by bends' number", house.at(0, 2, 2, -9), 1);
        for (int what = 5; what <= 16; what++) {
            Check.due("not of layers: " + what, house.told(0, what, 0), -1);
        }
        house.draw(0, 7, 0);
        Check.due("not of a matrix", house.told(0, 1, 0), -1);
        Check.due("its bends are gone", house.at(0, 2, 2, 0), 0);
    }
}
