/** The bounds of planar() and turn() (PART 3, promises 15 and 16): the least that are barred, the greatest that are not. */
public final class PlanarBoundsTest {
    private static final String K5 = "a-b;a-c;a-d;a-e;b-c;b-d;b-e;c-d;c-e;d-e;";
    private static final String K33 = "a-x;a-y;a-z;b-x;b-y;b-z;c-x;c-y;c-z;";

    public static void main(String[] args) {
        theLeastThatAreBarred();
        whatIsLeftOut();
        theGreatestThatArePlanar();
        partsOfOneNodeHaveNoFaces();
        outerOnes();
        aChangeIsSeen();
        Check.end();
    }

    private static void planar(String graph, int... want) {
        DrawingHouse house = Check.house(graph);
        for (int what = 0; what < 5; what++) {
            Check.due("planar " + what + " of " + graph, house.planar(0, what), want[what]);
        }
    }

    private static void theLeastThatAreBarred() {
        planar(K5, 0, 0, -1, 5, 10);
        planar(K33, 0, 0, -1, 33, 9);
        // Without any one of their edges they are planar.
        for (int e = 0; e < 10; e++) {
            DrawingHouse house = Check.house(K5);
            house.change(0, 2, e, 0);
            Check.due("K5 without edge " + e, house.planar(0, 0), 1);
            Check.due("its faces", house.planar(0, 2), 6);
            Check.due("nothing bars it", house.planar(0, 3), -1);
        }
        for (int e = 0; e < 9; e++) {
            DrawingHouse house = Check.house(K33);
            house.change(0, 2, e, 0);
            Check.due("K3,3 without edge " + e, house.planar(0, 0), 1);
            Check.due("its faces", house.planar(0, 2), 4);
            Check.due("no edges of what bars it", house.planar(0, 4), -1);
        }
        planar("a-b-c-d-a-c;b-d;", 1, 0, 4, -1, -1);
    }

    private static void whatIsLeftOut() {
        // Edges that are left out come last, first and between.
        DrawingHouse house = Check.house("p-q;" + K5 + "q-a;p-b;");
        Check.due("kind", house.planar(0, 3), 5);
        Check.due("edges", house.planar(0, 4), 10);
        for (int k = 0; k < 10; k++) {
            Check.due("edge " + k, house.turn(0, 2, k, -1), k + 1);
        }
        Check.due("no 11th", house.turn(0, 2, 10, 0), -1);
        // An edge drawn out to the most nodes that there may be: 24, with 27 edges.
        StringBuilder path = new StringBuilder("a");
        for (int k = 0; k < 18; k++) {
            path.append("-m").append((char) ('a' + k));
        }
        planar(path + "-x;a-y;a-z;b-x;b-y;b-z;c-x;c-y;c-z;", 0, 0, -1, 33, 27);
    }

    private static void theGreatestThatArePlanar() {
        // 24 nodes and 48 edges: two rings of 12, one within the other, joined like a band of triangles.
        StringBuilder text = new StringBuilder();
        for (int k = 0; k < 12; k++) {
            String in = "i" + (char) ('a' + k);
            String out = "o" + (char) ('a' + k);
            text.append(in).append("-i").append((char) ('a' + (k + 1) % 12)).append(';');
            text.append(out).append("-o").append((char) ('a' + (k + 1) % 12)).append(';');
            text.append(in).append('-').append(out).append(';');
            text.append(in).append("-o").append((char) ('a' + (k + 1) % 12)).append(';');
        }
        DrawingHouse house = Check.house(text.toString());
        Check.due("nodes", house.count(0, 0), 24);
        Check.due("edges", house.count(0, 1), 48);
        Check.due("planar", house.planar(0, 0), 1);
        Check.due("48 - 24 + 2 faces", house.planar(0, 2), 26);
        Check.due("not outer-planar", house.planar(0, 1), 0);
        Check.due("the last face", house.turn(0, 1, 25, 0) >= 0, true);
        Check.due("no other", house.turn(0, 1, 26, 0), -1);
        Check.due("the last around the last node", house.turn(0, 0, 23, 3) >= 0, true);
        Check.due("no other", house.turn(0, 0, 23, 4), -1);
        // A tree has one face, which goes along each edge twice.
        StringBuilder path = new StringBuilder();
        for (int k = 0; k < 23; k++) {
            path.append((char) ('a' + k)).append('-').append((char) ('b' + k)).append(';');
        }
        DrawingHouse tree = Check.house(path.toString());
        Check.due("one face", tree.planar(0, 2), 1);
        Check.due("its last node", tree.turn(0, 1, 0, 45), 1);
        Check.due("no other", tree.turn(0, 1, 0, 46), -1);
    }

    private static void partsOfOneNodeHaveNoFaces() {
        planar("", 1, 1, 0, -1, -1);
        planar("node a;", 1, 1, 0, -1, -1);
        planar("node a;node b;", 1, 1, 0, -1, -1);
        planar("a-b;", 1, 1, 1, -1, -1);
        planar("node x;a-b;node y;c-d;", 1, 1, 2, -1, -1);
        DrawingHouse house = Check.house("node x;a-b;node y;");
        Check.due("around a part of one node", house.turn(0, 0, 0, 0), -1);
        Check.due("face 0 is that of the edge", house.turn(0, 1, 0, 0), 1);
        Check.due("no face 1", house.turn(0, 1, 1, 0), -1);
    }

    private static void outerOnes() {
        planar("a-b-c-a;", 1, 1, 2, -1, -1);
        planar("a-b-c-d-a-c;", 1, 1, 3, -1, -1);
        planar("a-x;a-y;a-z;b-x;b-y;b-z;", 1, 0, 3, -1, -1);
        planar("a-x;a-y;a-z;b-x;b-y;", 1, 1, 2, -1, -1);
        StringBuilder ring = new StringBuilder();
        for (int k = 0; k < 24; k++) {
            ring.append((char) ('a' + k)).append('-').append((char) ('a' + (k + 1) % 24)).append(';');
        }
        planar(ring.toString(), 1, 1, 2, -1, -1);
        // Chords from one node: 24 + 21 edges, and one more that crosses one of them.
        for (int k = 2; k < 23; k++) {
            ring.append("a-").append((char) ('a' + k)).append(';');
        }
        planar(ring.toString(), 1, 1, 23, -1, -1);
        planar(ring + "b-d;", 1, 0, 24, -1, -1);
    }

    private static void aChangeIsSeen() {
        DrawingHouse house = Check.house(K5);
        Check.due("not planar", house.planar(0, 0), 0);
        house.change(0, 2, 9, 0);
        Check.due("planar now", house.planar(0, 0), 1);
        Check.due("no edge of what bars it", house.turn(0, 2, 0, 0), -1);
        house.back(0, 0);
        Check.due("not planar again", house.planar(0, 4), 10);
        Check.due("no order", house.turn(0, 0, 0, 0), -1);
        Check.read(house, 0, "a-b;");
        Check.due("another text", house.planar(0, 1), 1);
    }
}
