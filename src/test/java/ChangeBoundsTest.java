/**
 * The bounds of changes by hand (PART 1, promises 10 and 11): for each kind of change the last that is made
 * and the first that is refused, the 30 that can be taken back, and what they take away.
 */
public final class ChangeBoundsTest {
    private static final int[] FAR = {Integer.MIN_VALUE, Integer.MAX_VALUE};

    public static void main(String[] args) {
        newNodesAreNamedByTheirNumber();
        aNameThatIsThere();
        thereIsRoomFor24Nodes();
        newNodesNeedAGroup();
        newEdgesNeedTwoNodes();
        twoNodesHaveOneEdge();
        thereIsRoomFor48Edges();
        edgesAndNodesAreTakenAway();
        sizesAreOneTo99();
        weightsAreOneTo9();
        groupsAreThoseThatThereAre();
        oneWayIsOneOrNone();
        thereAreEightKinds();
        thirtyCanBeTakenBack();
        anotherChangeEndsDoingAgain();
        allNumbersAsTheyWere();
        theTextForgetsThem();
        eachChangeTakesTheDrawingAway();
        placesAreApart();
        Check.end();
    }

    private static void made(DrawingHouse house, int what, int a, int b, int want) {
        int before = house.count(0, 6);
        Check.due("change " + what + " " + a + " " + b, house.change(0, what, a, b), want);
        Check.due("it counts just when it is made", house.count(0, 6) - before, want == -1 ? 0 : 1);
    }

    private static void refused(DrawingHouse house, int what, int a, int b) {
        made(house, what, a, b, -1);
    }

    private static void newNodesAreNamedByTheirNumber() {
        DrawingHouse house = new DrawingHouse();
        for (int k = 0; k < 24; k++) {
            Check.due("node " + k, house.change(0, 0, 0, Integer.MIN_VALUE), k);
            String name = "n" + k;
            for (int i = 0; i < name.length(); i++) {
                Check.due("letter " + i + " of " + name, house.letter(0, 0, k, i), name.charAt(i));
            }
            Check.due("bytes of " + name, house.node(0, k, 0), name.length());
            Check.due("size 1", house.node(0, k, 1), 1);
            Check.due("no neighbours", house.node(0, k, 3), 0);
        }
    }

    private static void aNameThatIsThere() {
        DrawingHouse house = Check.house("node n1;");
        refused(house, 0, 0, 0);
        Check.due("no node came", house.count(0, 0), 1);
        DrawingHouse other = Check.house("node n0;node n2;node n01;node N4;");
        made(other, 0, 0, 0, 4);
        made(other, 3, 0, 0, 0);
        // Now n2, n01, N4, n4 are there: the next one would be n4, too.
        refused(other, 0, 0, 0);
        made(other, 3, 3, 0, 0);
        made(other, 0, 0, 0, 3);
        Check.due("n3", other.letter(0, 0, 3, 1), '3');
    }

    private static void thereIsRoomFor24Nodes() {
        DrawingHouse house = new DrawingHouse();
        for (int k = 0; k < 24; k++) {
            Check.due("node " + k, house.change(0, 0, 0, 0), k);
        }
        refused(house, 0, 0, 0);
        Check.due("nodes", house.count(0, 0), 24);
        made(house, 3, 23, 0, 0);
        made(house, 0, 0, 0, 23);
        refused(house, 0, 0, 0);
    }

    private static void newNodesNeedAGroup() {
        DrawingHouse house = Check.house("group g{}group h{}");
        for (int a : new int[] {-1, 3, Integer.MIN_VALUE, Integer.MAX_VALUE}) {
            refused(house, 0, a, 0);
        }
        made(house, 0, 2, 0, 0);
        made(house, 0, 0, 0, 1);
        Check.due("its group", house.node(0, 0, 2), 2);
        Check.due("its group", house.node(0, 1, 2), 0);
        refused(new DrawingHouse(), 0, 1, 0);
    }

    private static void newEdgesNeedTwoNodes() {
        DrawingHouse house = Check.house("node a;node b;node c;");
        for (int w : new int[] {-1, 3, Integer.MIN_VALUE, Integer.MAX_VALUE}) {
            refused(house, 1, 0, w);
            refused(house, 1, w, 0);
        }
        for (int i = 0; i < 3; i++) {
            refused(house, 1, i, i);
        }
        made(house, 1, 2, 0, 0);
        made(house, 1, 0, 1, 1);
        Check.due("tail", house.edge(0, 0, 0), 2);
        Check.due("head", house.edge(0, 0, 1), 0);
        Check.due("weight", house.edge(0, 0, 2), 1);
        Check.due("not one-way", house.edge(0, 0, 3), 0);
    }

    private static void twoNodesHaveOneEdge() {
        DrawingHouse house = Check.house("a-b>c;node d;");
        refused(house, 1, 0, 1);
        refused(house, 1, 1, 0);
        refused(house, 1, 1, 2);
        refused(house, 1, 2, 1);
        made(house, 1, 0, 2, 2);
        refused(house, 1, 2, 0);
        made(house, 2, 0, 0, 0);
        made(house, 1, 1, 0, 2);
        refused(house, 1, 0, 1);
    }

    private static void thereIsRoomFor48Edges() {
        StringBuilder text = new StringBuilder();
        for (int k = 0; k < 47; k++) {
            text.append((char) ('a' + k % 24)).append('-').append((char) ('a' + (k + 1 + k / 24) % 24)).append(';');
        }
        DrawingHouse house = Check.house(text.toString());
        Check.due("47 edges", house.count(0, 1), 47);
        made(house, 1, 0, 12, 47);
        refused(house, 1, 1, 13);
        Check.due("48 edges", house.count(0, 1), 48);
        made(house, 2, 47, 0, 0);
        made(house, 1, 1, 13, 47);
        refused(house, 1, 0, 12);
    }

    private static void edgesAndNodesAreTakenAway() {
        DrawingHouse house = Check.house("a-b[weight=2];b-c[weight=3];c-d[weight=4];d-a[weight=5];");
        for (int w : new int[] {-1, 4, Integer.MIN_VALUE, Integer.MAX_VALUE}) {
            refused(house, 2, w, 0);
            refused(house, 3, w, 0);
        }
        made(house, 2, 3, 0, 0);
        refused(house, 2, 3, 0);
        made(house, 2, 0, 0, 0);
        Check.due("weight of what was edge 1", house.edge(0, 0, 2), 3);
        Check.due("edges", house.count(0, 1), 2);
        allOfAnEdgeGoesDown();
        made(house, 3, 3, 0, 0);
        refused(house, 3, 3, 0);
        Check.due("d's edge is gone", house.count(0, 1), 1);
        made(house, 3, 0, 0, 0);
        Check.due("tail", house.edge(0, 0, 0), 0);
        Check.due("head", house.edge(0, 0, 1), 1);
        made(house, 3, 0, 0, 0);
        made(house, 3, 0, 0, 0);
        refused(house, 3, 0, 0);
        refused(house, 2, 0, 0);
        Check.due("no nodes", house.count(0, 0), 0);
        Check.due("no edges", house.count(0, 1), 0);
    }

    private static void allOfAnEdgeGoesDown() {
        DrawingHouse house = Check.house("group g{node a[size=2];}node bb[size=3];node c[size=4];a-bb;bb>c[weight=5];c-d[weight=6];d>a;");
        int[][] edges = {{1, 2, 5, 1}, {2, 3, 6, 0}, {3, 0, 1, 1}};
        made(house, 2, 0, 0, 0);
        for (int e = 0; e < 3; e++) {
            for (int what = 0; what < 4; what++) {
                Check.due("edge " + e + ", " + what, house.edge(0, e, what), edges[e][what]);
            }
        }
        made(house, 3, 0, 0, 0);
        int[][] nodes = {{2, 3, 0}, {1, 4, 0}, {1, 1, 0}};
        for (int i = 0; i < 3; i++) {
            for (int what = 0; what < 3; what++) {
                Check.due("node " + i + ", " + what, house.node(0, i, what), nodes[i][what]);
            }
        }
        Check.due("tail of what was edge 1", house.edge(0, 0, 0), 0);
        Check.due("head of what was edge 2", house.edge(0, 1, 1), 2);
        Check.due("one-way of what was edge 2", house.edge(0, 1, 3), 0);
        Check.due("edges", house.count(0, 1), 2);
    }

    private static void sizesAreOneTo99() {
        DrawingHouse house = Check.house("a-b;");
        made(house, 4, 0, 99, 0);
        Check.due("99", house.node(0, 0, 1), 99);
        made(house, 4, 1, 1, 0);
        for (int b : new int[] {0, -1, 100, 355, Integer.MIN_VALUE, Integer.MAX_VALUE}) {
            refused(house, 4, 0, b);
        }
        for (int a : new int[] {-1, 2, Integer.MIN_VALUE, Integer.MAX_VALUE}) {
            refused(house, 4, a, 1);
        }
        Check.due("it stays", house.node(0, 0, 1), 99);
        Check.due("the other one's", house.node(0, 1, 1), 1);
    }

    private static void weightsAreOneTo9() {
        DrawingHouse house = Check.house("a-b-c;");
        made(house, 5, 1, 9, 0);
        Check.due("9", house.edge(0, 1, 2), 9);
        made(house, 5, 0, 1, 0);
        for (int b : new int[] {0, -1, 10, 265, Integer.MIN_VALUE, Integer.MAX_VALUE}) {
            refused(house, 5, 1, b);
        }
        for (int a : new int[] {-1, 2, Integer.MIN_VALUE, Integer.MAX_VALUE}) {
            refused(house, 5, a, 1);
        }
        Check.due("it stays", house.edge(0, 1, 2), 9);
    }

    private static void groupsAreThoseThatThereAre() {
        DrawingHouse house = Check.house("group g{}group h{a-b;}");
        made(house, 6, 0, 1, 0);
        made(house, 6, 1, 0, 0);
        Check.due("group 1", house.node(0, 0, 2), 1);
        Check.due("group 0", house.node(0, 1, 2), 0);
        made(house, 6, 1, 2, 0);
        for (int b : new int[] {-1, 3, Integer.MIN_VALUE, Integer.MAX_VALUE}) {
            refused(house, 6, 0, b);
        }
        for (int a : new int[] {-1, 2, Integer.MIN_VALUE, Integer.MAX_VALUE}) {
            refused(house, 6, a, 0);
        }
        Check.due("it stays", house.node(0, 0, 2), 1);
    }

    private static void oneWayIsOneOrNone() {
        DrawingHouse house = Check.house("a-b>c;");
        made(house, 7, 0, 1, 0);
        made(house, 7, 1, 0, 0);
        Check.due("one-way", house.edge(0, 0, 3), 1);
        Check.due("not one-way", house.edge(0, 1, 3), 0);
        for (int b : new int[] {-1, 2, Integer.MIN_VALUE, Integer.MAX_VALUE}) {
            refused(house, 7, 0, b);
        }
        for (int a : new int[] {-1, 2, Integer.MIN_VALUE, Integer.MAX_VALUE}) {
            refused(house, 7, a, 1);
        }
        Check.due("it stays", house.edge(0, 0, 3), 1);
    }

    private static void thereAreEightKinds() {
        DrawingHouse house = Check.house("a-b;");
        refused(house, -1, 0, 1);
        refused(house, 8, 0, 1);
        for (int what : FAR) {
            refused(house, what, 0, 1);
        }
    }

    private static void thirtyCanBeTakenBack() {
        DrawingHouse house = Check.house("a-b;");
        for (int k = 1; k <= 30; k++) {
            house.change(0, 4, 0, k + 1);
            Check.due("changes", house.count(0, 6), k);
        }
        for (int k = 29; k >= 0; k--) {
            Check.due("taken back", house.back(0, 0), true);
            Check.due("size", house.node(0, 0, 1), k + 1);
            Check.due("can be taken back", house.count(0, 6), k);
            Check.due("can be done again", house.count(0, 7), 30 - k);
        }
        Check.due("not a 31st", house.back(0, 0), false);
        for (int k = 1; k <= 30; k++) {
            Check.due("done again", house.back(0, 1), true);
        }
        Check.due("not a 31st", house.back(0, 1), false);
        Check.due("size", house.node(0, 0, 1), 31);
        // With a 31st change the first one can no longer be taken back.
        Check.due("the 31st change", house.change(0, 4, 0, 32), 0);
        Check.due("changes", house.count(0, 6), 30);
        for (int k = 0; k < 30; k++) {
            house.back(0, 0);
        }
        Check.due("not a 31st", house.back(0, 0), false);
        Check.due("the first change stays", house.node(0, 0, 1), 2);
    }

    private static void anotherChangeEndsDoingAgain() {
        DrawingHouse house = Check.house("a-b;");
        house.change(0, 4, 0, 2);
        house.change(0, 4, 0, 3);
        house.back(0, 0);
        house.back(0, 0);
        house.change(0, 4, 0, 100);
        Check.due("a refused one does not", house.count(0, 7), 2);
        Check.due("done again", house.back(0, 1), true);
        house.change(0, 4, 1, 9);
        Check.due("another one does", house.count(0, 7), 0);
        Check.due("none to do again", house.back(0, 1), false);
        Check.due("changes", house.count(0, 6), 2);
        // A change that changes no number is one, too.
        house.back(0, 0);
        Check.due("the size that it has", house.change(0, 4, 1, 1), 0);
        Check.due("none to do again", house.count(0, 7), 0);
    }

    private static void allNumbersAsTheyWere() {
        String text = "group g{node abcdefgh[size=99];}group h{}abcdefgh>b[weight=9];b-c;c>abcdefgh[weight=4];c-d;";
        DrawingHouse house = Check.house(text);
        String before = Check.text(house, 0, 0);
        int[][] changes = {{3, 0, 0}, {2, 1, 0}, {0, 2, 0}, {1, 0, 3}, {6, 2, 2}, {7, 0, 1}, {5, 0, 7}, {4, 1, 50}, {3, 1, 0}};
        String[] steps = new String[changes.length];
        for (int k = 0; k < changes.length; k++) {
            Check.due("change " + k, house.change(0, changes[k][0], changes[k][1], changes[k][2]) >= 0, true);
            steps[k] = Check.text(house, 0, 0);
        }
        for (int k = changes.length - 1; k >= 0; k--) {
            house.back(0, 0);
            Check.due("behind step " + k, Check.text(house, 0, 0), k == 0 ? before : steps[k - 1]);
        }
        for (int k = 0; k < changes.length; k++) {
            house.back(0, 1);
            Check.due("again at step " + k, Check.text(house, 0, 0), steps[k]);
        }
    }

    private static void theTextForgetsThem() {
        DrawingHouse house = Check.house("a-b;");
        house.change(0, 4, 0, 2);
        house.change(0, 4, 0, 3);
        house.back(0, 0);
        Check.due("a text with a fault", Check.read(house, 0, "a-b"), -1);
        Check.due("leaves what can be taken back", house.count(0, 6), 1);
        Check.due("and done again", house.count(0, 7), 1);
        Check.due("a text elsewhere", Check.read(house, 1, "a-b;"), 2);
        Check.due("does, too", house.count(0, 6), 1);
        Check.due("a text", Check.read(house, 0, "a-b;"), 2);
        Check.due("forgets them", house.count(0, 6), 0);
        Check.due("and those", house.count(0, 7), 0);
        Check.due("none to take back", house.back(0, 0), false);
        Check.due("none to do again", house.back(0, 1), false);
    }

    private static void eachChangeTakesTheDrawingAway() {
        int[][] changes = {{0, 0, 0}, {1, 0, 2}, {2, 0, 0}, {3, 2, 0}, {4, 0, 1}, {5, 0, 1}, {6, 0, 0}, {7, 0, 0}};
        for (int[] c : changes) {
            DrawingHouse house = Check.house("a-b-c;");
            for (int turn = 0; turn < 3; turn++) {
                house.draw(0, 7, 0);
                Check.style(house, 0, "node if 1=1:color=9;edge if 1=1:form=9;");
                if (turn == 0) {
                    Check.due("change " + c[0], house.change(0, c[0], c[1], c[2]) >= 0, true);
                } else {
                    Check.due("back", house.back(0, turn - 1), true);
                }
                Check.due("no way, change " + c[0] + ", turn " + turn, house.told(0, 0, 0), -1);
                Check.due("no point", house.at(0, 0, 0, 0), Integer.MIN_VALUE);
                Check.due("no text", house.text(0, 1), -1);
                Check.due("no color", house.shade(0, 0, 0, 0), 0);
                Check.due("no form", house.shade(0, 1, 0, 2), 0);
            }
        }
    }

    private static void placesAreApart() {
        DrawingHouse house = Check.house("a-b;");
        for (int g = 1; g < 4; g++) {
            Check.read(house, g, "a-b;");
            house.draw(g, 7, 0);
            for (int k = 0; k < g; k++) {
                house.change(g, 4, 0, 5);
            }
            Check.due("changes in " + g, house.count(g, 6), g);
        }
        Check.due("changes in 0", house.count(0, 6), 0);
        Check.due("none to take back in 0", house.back(0, 0), false);
        Check.due("one in 3", house.back(3, 0), true);
        Check.due("changes in 2", house.count(2, 6), 2);
        Check.due("size in 1", house.node(1, 0, 1), 5);
    }
}
