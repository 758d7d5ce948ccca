/** Promises 26 to 29: text, octet, dots, dot. */
public final class OutTest {
    public static void main(String[] args) {
        textsOfGraphs();
        textsOfDrawings();
        textsThatAreNone();
        dotsOfADrawing();
        dotsHaveColors();
        wrongPlanes();
        Check.end();
    }

    private static void textsOfGraphs() {
        DrawingHouse house = Check.house("group g{node a[size=12];group inner{b>c[weight=3];}node d;}group h{}a-e;node f[size=99];");
        String want = "node e;\nnode f [size=99];\ngroup g {\nnode a [size=12];\nnode d;\ngroup inner {\nnode b;\nnode c;\n}\n}\n"
                + "group h {\n}\nb > c [weight=3];\na - e;\n";
        Check.due("bytes", house.text(0, 0), want.length());
        Check.due("text", Check.written(house), want);
        Check.due("it can be read again", Check.read(house, 1, want), 6);
        Check.due("and is the same text but for the order of nodes", house.text(1, 0), want.length());
        Check.due("graph", house.same(0, 1), 1);
        Check.due("no nodes", house.text(2, 0), 0);
        Check.due("no byte", house.octet(0), -1);
    }

    private static void textsOfDrawings() {
        DrawingHouse house = Check.house("a>b>cc>a;");
        house.draw(0, 0, 0);
        house.put(0, 0, -1, -1000000, 1000000);
        house.put(0, 1, -1, 0, -10);
        house.put(0, 2, 0, 100, 999999);
        String want = "a -1000000 1000000\nb 0 -10\ncc 4 10\n0 1\n1 2\n2 0 100 999999\n";
        Check.due("x of cc", house.at(0, 0, 2, 0), 4);
        Check.due("bytes", house.text(0, 1), want.length());
        Check.due("text", Check.written(house), want);
        Check.due("first byte", house.octet(0), 'a');
        Check.due("last byte", house.octet(want.length() - 1), 10);
        Check.due("behind it", house.octet(want.length()), -1);
        Check.due("ahead of it", house.octet(-1), -1);
        Check.due("least", house.octet(Integer.MIN_VALUE), -1);
        Check.due("greatest", house.octet(Integer.MAX_VALUE), -1);
    }

    private static void textsThatAreNone() {
        DrawingHouse house = Check.house("a-b;");
        Check.due("text", house.text(0, 0), 23);
        int[] wrong = {-1, 4, Integer.MIN_VALUE, Integer.MAX_VALUE};
        for (int w : wrong) {
            Check.due("text in " + w, house.text(w, 0), -1);
            Check.due("text, what " + w, house.text(0, w), -1);
        }
        Check.due("no drawing", house.text(0, 1), -1);
        Check.due("the latest one stays", Check.written(house), "node a;\nnode b;\na - b;\n");
        textsMayHave4000Bytes();
    }

    /** Some 200 bends: with the longest numbers they don't fit. */
    private static void textsMayHave4000Bytes() {
        StringBuilder graph = new StringBuilder();
        for (int k = 0; k < 24; k++) {
            graph.append("node ").append((char) ('a' + k)).append("xxxxxxx;");
        }
        for (int k = 0; k < 48; k++) {
            graph.append((char) ('a' + k % 24)).append("xxxxxxx-");
            graph.append((char) ('a' + (k % 24 + (k < 24 ? 10 : 11)) % 24)).append("xxxxxxx;");
        }
        DrawingHouse house = Check.house(graph.toString());
        house.draw(0, 7, 0);
        for (int i = 0; i < 24; i++) {
            house.put(0, i, -1, 23 * (i % 4) + i / 4 % 2 * 5, i / 4 * 8);
        }
        int bends = 0;
        for (int e = 0; e < 48; e++) {
            Check.due("route " + e, house.route(0, e), 0);
            bends += house.at(0, 2, e, 0);
        }
        Check.due("many bends", bends > 180, true);
        Check.due("short numbers", house.text(0, 1) > 0, true);
        String latest = Check.written(house);
        int length = latest.length();
        int want = length;
        int lastEdge = 0;
        int lastBend = 0;
        for (int e = 0; e < 48 && want <= 4000; e++) {
            for (int k = 0; k < house.at(0, 2, e, 0) && want <= 4000; k++) {
                int old = String.valueOf(house.at(0, 3, e, k)).length() + String.valueOf(house.at(0, 4, e, k)).length();
                house.put(0, e, k, -1000000, -1000000);
                lastEdge = e;
                lastBend = k;
                want += 16 - old;
                Check.due("text of " + want, house.text(0, 1), want <= 4000 ? want : -1);
                length = want <= 4000 ? want : length;
            }
        }
        Check.due("more than 4,000", want > 4000, true);
        Check.due("the latest one stays", house.octet(length - 1), 10);
        Check.due("the latest one stays", house.octet(length), -1);
        // The last point's numbers decide: shorter by just what is too much, and by one less.
        int room = 16 - (want - 4000);
        house.put(0, lastEdge, lastBend, numberOf(Math.min(room - 1, 8)), numberOf(room - Math.min(room - 1, 8)));
        Check.due("4,000 bytes", house.text(0, 1), 4000);
        room++;
        house.put(0, lastEdge, lastBend, numberOf(Math.min(room - 1, 8)), numberOf(room - Math.min(room - 1, 8)));
        Check.due("4,001 bytes", house.text(0, 1), -1);
        Check.due("the latest one stays", house.octet(3999), 10);
    }

    /** A number that is written with so many bytes. */
    private static int numberOf(int bytes) {
        return bytes == 8 ? -1000000 : Integer.parseInt("1" + "0".repeat(bytes - 1));
    }

    private static void dotsOfADrawing() {
        DrawingHouse house = Check.house("a-b;c-d;a-c;b-d;");
        house.draw(0, 7, 0);
        int[] points = {0, 0, 20, 0, 10, 0, 10, 10};
        for (int i = 0; i < 4; i++) {
            house.put(0, i, -1, points[2 * i], points[2 * i + 1]);
        }
        house.route(0, 0);
        house.route(0, 3);
        Check.due("dots", house.dots(0, 21, 11), 4 + 9 + 9 + 9 + 9 + 1 + 1 + 18 + 1);
        String[] rows = {"N#########N.........N", "#.........#.........#", "#####################", "..........#.........#"};
        for (int y = 0; y < rows.length; y++) {
            StringBuilder row = new StringBuilder();
            for (int x = 0; x < 21; x++) {
                int dot = house.dot(x, y);
                row.append(dot == 128 ? 'N' : dot == 1 ? '#' : dot == 0 ? '.' : '?');
            }
            Check.due("row " + y, row.toString(), rows[y]);
        }
        Check.due("one dot", house.dots(0, 1, 1), 1);
        Check.due("it", house.dot(0, 0), 128);
        // A slanted line: dots at a + (2k(c - a) + n) / 2n, rounded down.
        DrawingHouse line = Check.house("a-b;");
        line.draw(0, 7, 0);
        line.put(0, 0, -1, 0, 5);
        line.put(0, 1, -1, 10, 0);
        Check.due("dots", line.dots(0, 11, 6), 11);
        int[] y = {5, 5, 4, 4, 3, 3, 2, 2, 1, 1, 0};
        for (int x = 0; x <= 10; x++) {
            Check.due("dot of column " + x, line.dot(x, y[x]) > 0, true);
        }
    }

    private static void dotsHaveColors() {
        DrawingHouse house = Check.house("a-b;a-c;");
        Check.style(house, 0, "edge if to=1:color=255;edge if to=2:color=7;node if deg=2:color=255;node if deg=1:color=3;");
        house.draw(0, 7, 0);
        house.put(0, 0, -1, 0, 0);
        house.put(0, 1, -1, 3, 0);
        house.put(0, 2, -1, 3, 0);
        Check.due("dots", house.dots(0, 4, 1), 4);
        Check.due("node a", house.dot(0, 0), 255);
        Check.due("the later edge", house.dot(1, 0), 8);
        Check.due("the later node", house.dot(3, 0), 129);
        house.put(0, 2, -1, 1, 0);
        house.dots(0, 4, 1);
        Check.due("the other edge", house.dot(2, 0), 256);
    }

    private static void wrongPlanes() {
        DrawingHouse house = Check.house("a-b;");
        Check.due("no drawing", house.dots(0, 2, 2), -1);
        house.draw(0, 7, 0);
        Check.due("dots", house.dots(0, 2, 3), 3);
        int[] wrong = {0, -1, 65, Integer.MIN_VALUE, Integer.MAX_VALUE};
        for (int w : wrong) {
            Check.due("width " + w, house.dots(0, w, 2), -1);
            Check.due("height " + w, house.dots(0, 2, w), -1);
        }
        Check.due("place 4", house.dots(4, 2, 2), -1);
        Check.due("place -1", house.dots(-1, 2, 2), -1);
        Check.due("the plane stays", house.dot(1, 2), 128);
        int[][] outside = {{2, 0}, {0, 3}, {-1, 0}, {0, -1}, {Integer.MAX_VALUE, 0}, {0, Integer.MIN_VALUE}};
        for (int[] o : outside) {
            Check.due("dot " + o[0] + ", " + o[1], house.dot(o[0], o[1]), -1);
        }
        house.change(0, 4, 0, 5);
        Check.due("it is kept without the drawing, too", house.dot(1, 2), 128);
        house.draw(0, 7, 0);
        Check.due("64 times 64", house.dots(0, 64, 64), 64);
    }
}
