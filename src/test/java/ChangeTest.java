/** Promises 10 and 11: change, back; what a change takes away. */
public final class ChangeTest {
    public static void main(String[] args) {
        changesAreMade();
        wrongChangesAreNot();
        changesAreTakenBackAndDoneAgain();
        thirtyChangesAreKept();
        aChangeTakesTheDrawingAway();
        Check.end();
    }

    private static void changesAreMade() {
        DrawingHouse house = Check.house("group g{}a-b>c-d[weight=2];");
        Check.due("a new node", house.change(0, 0, 1, 0), 4);
        Check.due("a new edge", house.change(0, 1, 4, 0), 3);
        Check.due("a size", house.change(0, 4, 4, 99), 0);
        Check.due("a weight", house.change(0, 5, 3, 9), 0);
        Check.due("a group", house.change(0, 6, 0, 1), 0);
        Check.due("one-way", house.change(0, 7, 3, 1), 0);
        Check.due("not one-way", house.change(0, 7, 1, 0), 0);
        String all = "node b;\nnode c;\nnode d;\ngroup g {\nnode a;\nnode n4 [size=99];\n}\n"
                + "a - b [weight=2];\nb - c [weight=2];\nc - d [weight=2];\nn4 > a [weight=9];\n";
        Check.due("text", Check.text(house, 0, 0), all);
        Check.due("an edge taken away", house.change(0, 2, 0, -7), 0);
        Check.due("the next one has its number", house.edge(0, 0, 0), 1);
        Check.due("a node taken away", house.change(0, 3, 2, 0), 0);
        Check.due("nodes", house.count(0, 0), 4);
        Check.due("its edges are gone", house.count(0, 1), 1);
        Check.due("tail's number went down", house.edge(0, 0, 0), 3);
        Check.due("name's number is free again", house.letter(0, 0, 3, 1), '4');
        Check.due("n4 is there already", house.change(0, 0, 0, 0), -1);
        Check.due("an edge between the two again", house.change(0, 1, 0, 1), 1);
        Check.due("changes", house.count(0, 6), 10);
    }

    private static void wrongChangesAreNot() {
        DrawingHouse house = Check.house("a-b-c;");
        int[][] wrong = {
            {0, -1, 0}, {0, 1, 0}, {1, 0, 0}, {1, 0, 1}, {1, 1, 0}, {1, 0, 3}, {1, -1, 0}, {1, 3, 0}, {2, 2, 0}, {2, -1, 0},
            {3, 3, 0}, {3, -1, 0}, {4, 0, 0}, {4, 0, 100}, {4, 3, 5}, {5, 0, 0}, {5, 0, 10}, {5, 2, 5}, {6, 0, 1}, {6, 0, -1},
            {6, 3, 0}, {7, 0, 2}, {7, 0, -1}, {7, 2, 0}, {8, 0, 0}, {-1, 0, 0}, {4, 0, Integer.MAX_VALUE},
            {5, Integer.MIN_VALUE, 1}, {Integer.MAX_VALUE, 0, 0}, {1, Integer.MAX_VALUE, Integer.MIN_VALUE},
        };
        for (int[] w : wrong) {
            Check.due("change " + w[0] + " " + w[1] + " " + w[2], house.change(0, w[0], w[1], w[2]), -1);
        }
        Check.due("place 4", house.change(4, 0, 0, 0), -1);
        Check.due("place -1", house.change(-1, 0, 0, 0), -1);
        Check.due("none was made", house.count(0, 6), 0);
        Check.due("text", Check.text(house, 0, 0), "node a;\nnode b;\nnode c;\na - b;\nb - c;\n");
        DrawingHouse full = new DrawingHouse();
        for (int k = 0; k < 24; k++) {
            Check.due("node " + k, full.change(0, 0, 0, 0), k);
        }
        Check.due("the 25th", full.change(0, 0, 0, 0), -1);
        int made = 0;
        for (int a = 1; a < 24 && made < 48; a++) {
            for (int b = 0; b < a && made < 48; b++) {
                Check.due("edge " + made, full.change(0, 1, a, b), made);
                made++;
            }
        }
        Check.due("the 49th", full.change(0, 1, 23, 22), -1);
    }

    private static void changesAreTakenBackAndDoneAgain() {
        DrawingHouse house = Check.house("a-b-c-d;");
        Check.due("nothing to take back", house.back(0, 0), false);
        Check.due("nothing to do again", house.back(0, 1), false);
        house.change(0, 5, 2, 7);
        house.change(0, 3, 1, 0);
        house.change(0, 0, 0, 0);
        String latest = Check.text(house, 0, 0);
        Check.due("taken back", house.back(0, 0), true);
        Check.due("taken back", house.back(0, 0), true);
        Check.due("all numbers as they were", Check.text(house, 0, 0),
                "node a;\nnode b;\nnode c;\nnode d;\na - b;\nb - c;\nc - d [weight=7];\n");
        Check.due("can be taken back", house.count(0, 6), 1);
        Check.due("can be done again", house.count(0, 7), 2);
        Check.due("a wrong change", house.change(0, 3, 9, 0), -1);
        Check.due("leaves that", house.count(0, 7), 2);
        Check.due("done again", house.back(0, 1), true);
        Check.due("done again", house.back(0, 1), true);
        Check.due("not a third time", house.back(0, 1), false);
        Check.due("as it was", Check.text(house, 0, 0), latest);
        house.back(0, 0);
        house.change(0, 4, 0, 5);
        Check.due("another change ends that", house.back(0, 1), false);
        Check.due("redo 2", house.back(0, 2), false);
        Check.due("redo -1", house.back(0, -1), false);
        Check.due("place 4", house.back(4, 0), false);
        Check.due("place -1", house.back(-1, 0), false);
        Check.due("a fault leaves them", Check.read(house, 0, "a"), -1);
        Check.due("changes", house.count(0, 6), 3);
        Check.read(house, 0, "a-b;");
        Check.due("a text forgets them", house.back(0, 0), false);
    }

    private static void thirtyChangesAreKept() {
        DrawingHouse house = Check.house("a-b;");
        for (int k = 1; k <= 33; k++) {
            house.change(0, 4, 0, k);
        }
        Check.due("changes", house.count(0, 6), 30);
        int back = 0;
        while (house.back(0, 0)) {
            back++;
        }
        Check.due("taken back", back, 30);
        Check.due("size", house.node(0, 0, 1), 3);
        while (house.back(0, 1)) {
            back--;
        }
        Check.due("done again", back, 0);
        Check.due("size", house.node(0, 0, 1), 33);
    }

    private static void aChangeTakesTheDrawingAway() {
        DrawingHouse house = Check.house("a-b;");
        for (int turn = 0; turn < 4; turn++) {
            Check.due("drawn", house.draw(0, 7, 0), 0);
            Check.due("styled", Check.style(house, 0, "node if 1=1:color=9;"), 1);
            Check.due("shade", house.shade(0, 0, 0, 0), 9);
            if (turn == 0) {
                house.change(0, 4, 0, 2);
            } else if (turn == 1) {
                house.back(0, 0);
            } else if (turn == 2) {
                house.back(0, 1);
            } else {
                Check.read(house, 0, "a-b;");
            }
            Check.due("no drawing", house.at(0, 0, 0, 0), Integer.MIN_VALUE);
            Check.due("no way", house.told(0, 0, 0), -1);
            Check.due("no shade", house.shade(0, 0, 0, 0), 0);
        }
        house.draw(0, 7, 0);
        house.change(0, 4, 0, 200);
        house.change(1, 0, 0, 0);
        Check.due("a wrong change, or one elsewhere, leaves it", house.told(0, 0, 0), 7);
    }
}
