/** Promises 15 and 16: planar, turn. */
public final class PlanarTest {
    private static final String K5 = "a-b-c-d-e-a-c-e-b-d-a;";
    private static final String K33 = "a-x;a-y;a-z;b-x;b-y;b-z;c-x;c-y;c-z;";
    /** Two triangles that share node c, and a part with one edge. */
    private static final String BOW = "a-b;c-d;b-c;d-e;c-a;e-c;p-q;node r;";

    public static void main(String[] args) {
        planarOnesAreEmbedded();
        blocksStandOneBehindTheOther();
        othersAreBarred();
        outerPlanarOnes();
        wrongQuestions();
        Check.end();
    }

    private static void planar(DrawingHouse house, int... want) {
        for (int what = 0; what < 5; what++) {
            Check.due("planar " + what, house.planar(0, what), want[what]);
        }
    }

    /** A row of turn(), up to the first NONE. */
    private static String row(DrawingHouse house, int what, int i) {
        StringBuilder row = new StringBuilder();
        for (int k = 0; house.turn(0, what, i, k) != -1; k++) {
            row.append(k == 0 ? "" : " ").append(house.turn(0, what, i, k));
        }
        return row.toString();
    }

    private static void planarOnesAreEmbedded() {
        DrawingHouse house = Check.house("a-b-c-d-a-c;b-d;");
        planar(house, 1, 0, 4, -1, -1);
        String[] around = {"0 4 3", "0 5 1", "1 2 4", "2 5 3"};
        String[] faces = {"0 1 3", "1 0 2", "1 2 3", "3 2 0"};
        for (int i = 0; i < 4; i++) {
            Check.due("around " + i, row(house, 0, i), around[i]);
            Check.due("face " + i, row(house, 1, i), faces[i]);
        }
        Check.due("no edge of what bars it", house.turn(0, 2, 0, 0), -1);
        // One edge: one face, gone along both ways.
        DrawingHouse edge = Check.house("a-b;");
        planar(edge, 1, 1, 1, -1, -1);
        Check.due("its face", row(edge, 1, 0), "0 1");
        planar(Check.house("node a;"), 1, 1, 0, -1, -1);
        planar(new DrawingHouse(), 1, 1, 0, -1, -1);
    }

    private static void blocksStandOneBehindTheOther() {
        DrawingHouse house = Check.house(BOW);
        // Nodes a b c d e p q r; blocks: 0 2 4, then 1 3 5, then 6.
        planar(house, 1, 1, 4, -1, -1);
        Check.due("around c", row(house, 0, 2), "2 4 1 5");
        Check.due("around q", row(house, 0, 6), "6");
        Check.due("around r", row(house, 0, 7), "");
        // From a over b to c, there on by edge 4 back; from b over a by 4 to c, on by 1.
        Check.due("face 0", row(house, 1, 0), "0 1 2");
        Check.due("face 1", row(house, 1, 1), "1 0 2 3 4 2");
        Check.due("face 2", row(house, 1, 2), "3 2 4");
        Check.due("face 3", row(house, 1, 3), "5 6");
        Check.due("face 4", row(house, 1, 4), "");
    }

    private static void othersAreBarred() {
        DrawingHouse five = Check.house(K5 + "e-f;");
        planar(five, 0, 0, -1, 5, 10);
        Check.due("no order", five.turn(0, 0, 0, 0), -1);
        Check.due("no face", five.turn(0, 1, 0, 0), -1);
        Check.due("edge 9", five.turn(0, 2, 9, 99), 9);
        Check.due("edge 10", five.turn(0, 2, 10, 0), -1);
        Check.due("edge -1", five.turn(0, 2, -1, 0), -1);
        DrawingHouse three = Check.house(K33);
        planar(three, 0, 0, -1, 33, 9);
        // An edge of K3,3 drawn out, and one more edge, the last one, which is left out first.
        DrawingHouse drawnOut = Check.house("a-m-x;a-y;a-z;b-x;b-y;b-z;c-x;c-y;c-z;a-b;");
        planar(drawnOut, 0, 0, -1, 33, 10);
        for (int i = 0; i < 10; i++) {
            Check.due("edge " + i, drawnOut.turn(0, 2, i, 0), i);
        }
        // K6 without an edge holds both kinds; the edges that come last go.
        DrawingHouse six = Check.house("a-b;a-c;a-d;a-e;a-f;b-c;b-d;b-e;b-f;c-d;c-e;c-f;d-e;d-f;");
        Check.due("not planar", six.planar(0, 0), 0);
        Check.due("kind", six.planar(0, 3), 33);
        Check.due("edges", six.planar(0, 4), 9);
    }

    private static void outerPlanarOnes() {
        Check.due("a square", Check.house("a-b-c-d-a;").planar(0, 1), 1);
        Check.due("a square with both diagonals", Check.house("a-b-c-d-a-c;b-d;").planar(0, 1), 0);
        Check.due("K2,3", Check.house("a-x;a-y;a-z;b-x;b-y;b-z;").planar(0, 1), 0);
        Check.due("K2,3 is planar", Check.house("a-x;a-y;a-z;b-x;b-y;b-z;").planar(0, 0), 1);
        StringBuilder big = new StringBuilder();
        for (int k = 0; k < 24; k++) {
            big.append((char) ('a' + k)).append('-').append((char) ('a' + (k + 1) % 24)).append(';');
        }
        for (int k = 2; k < 23; k++) {
            big.append("a-").append((char) ('a' + k)).append(';');
        }
        Check.due("a fan of 24 nodes", Check.house(big.toString()).planar(0, 1), 1);
    }

    private static void wrongQuestions() {
        DrawingHouse house = Check.house("a-b-c-a;");
        int[] wrong = {-1, 5, Integer.MIN_VALUE, Integer.MAX_VALUE};
        for (int w : wrong) {
            Check.due("planar " + w, house.planar(0, w), -1);
            Check.due("planar in " + w, house.planar(w, 0), -1);
            Check.due("turn " + w, house.turn(0, w, 0, 0), -1);
            Check.due("turn in " + w, house.turn(w, 0, 0, 0), -1);
            for (int what = 0; what < 3; what++) {
                Check.due("turn of " + w, house.turn(0, what, w, 0), -1);
                Check.due("turn, number " + w, house.turn(0, what, 0, w), -1);
            }
        }
        house.change(0, 2, 2, 0);
        Check.due("a change is seen", house.planar(0, 2), 1);
    }
}
