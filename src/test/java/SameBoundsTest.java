/** The bounds of same() and map() (PART 2, promises 13 and 14): the 20,000 steps, graphs without nodes, what counts. */
public final class SameBoundsTest {
    public static void main(String[] args) {
        stepsUpTo20000();
        graphsWithoutNodes();
        asManyNodesAndEdges();
        eachTryIsAStep();
        theMapIsTheFirst();
        mapsOfNodesThatThereAre();
        oneWayFromTo();
        Check.end();
    }

    /** Compares two graphs whose edges are told as pairs of letters. */
    private static DrawingHouse compared(int count, String first, String second, int want, int steps) {
        DrawingHouse house = Check.house(Check.nodes(count) + edges(first));
        Check.read(house, 1, Check.nodes(count) + edges(second));
        Check.due("same of " + first, house.same(0, 1), want);
        Check.due("steps", house.map(-1), steps);
        return house;
    }

    private static String edges(String pairs) {
        StringBuilder text = new StringBuilder();
        for (String pair : pairs.split(" ")) {
            text.append(pair.charAt(0)).append('-').append(pair.charAt(1)).append(';');
        }
        return text.toString();
    }

    /** Graphs with three neighbours at each node, found by counting steps without a bound. */
    private static void stepsUpTo20000() {
        DrawingHouse found = compared(12, "ac af ah bg bh bj cf cg de di dk ei ek fl gj hl il jk",
                "ah ai ak be bg bl cd cf cj de df el fi gh gl hj ik jk", 1, 20000);
        Check.due("the map is whole", found.map(11) >= 0, true);
        compared(12, "ae ah aj bi bk bl ce cf ch di dj dl el fg fk gj gk hi",
                "ab ae af bd bl cd cj cl di ei ek fg fh gi gj hj hk kl", 0, 20000);
        // One step more is not made: neither the map that it would find, nor the end that it would come to.
        compared(14, "ac ag an bd be bf cf cg de dn ej fg hi hj hk ij im kl km lm ln",
                "ab al an bc bm ck cm de dh di eg el fj fk fn gi gl hi hm jk jn", -2, 20000);
        DrawingHouse spent = compared(12, "af ai al bg bh bj ce cf ck df dg dl eh ek gl hi ij jk",
                "ad ai ak bc bi bj cd cg di ef ek el fh fj gh gk hl jl", -2, 20000);
        Check.due("no map came of it", spent.map(0), -1);
        Check.due("a later one", spent.same(0, 0), 1);
        Check.due("has its own steps", spent.map(-1), 12);
        Check.due("spent again", spent.same(0, 1), -2);
        Check.due("the latest that was 1 stays", spent.map(11), 11);
        Check.due("the latest one's steps", spent.map(-1), 20000);
    }

    private static void graphsWithoutNodes() {
        DrawingHouse house = new DrawingHouse();
        Check.due("no same() yet", house.map(-1), -1);
        Check.due("no map yet", house.map(0), -1);
        Check.due("two without nodes", house.same(0, 3), 1);
        Check.due("one and itself", house.same(2, 2), 1);
        Check.due("no steps", house.map(-1), 0);
        Check.due("no node 0", house.map(0), -1);
        Check.read(house, 1, "node a;");
        Check.due("none and one", house.same(0, 1), 0);
        Check.due("one and none", house.same(1, 0), 0);
        Check.due("no steps", house.map(-1), 0);
        Check.due("one and one", house.same(1, 1), 1);
        Check.due("one step", house.map(-1), 1);
        Check.due("node 0", house.map(0), 0);
    }

    private static void asManyNodesAndEdges() {
        DrawingHouse house = Check.house("a-b-c;");
        Check.read(house, 1, "a-b-c;node d;");
        Check.read(house, 2, "a-b-c-a;");
        Check.read(house, 3, "a-b;node c;");
        for (int f = 1; f < 4; f++) {
            Check.due("other numbers, " + f, house.same(0, f), 0);
            Check.due("no steps", house.map(-1), 0);
            Check.due("the other way, " + f, house.same(f, 0), 0);
        }
        for (int w : new int[] {-1, 4, Integer.MIN_VALUE, Integer.MAX_VALUE}) {
            Check.due("place " + w, house.same(w, 0), -1);
            Check.due("and place " + w, house.same(0, w), -1);
        }
        Check.due("a refused one has no steps of its own", house.map(-1), 0);
    }

    private static void eachTryIsAStep() {
        // Each of three nodes without edges becomes the first that is not taken.
        DrawingHouse house = compared(4, "cd", "cd", 1, 4);
        // 0 tries 0 and 1 (with too many neighbours) and 2; 1 tries 0, 1 and 3; 2 tries 0, 3 tries 1.
        Check.read(house, 1, "a-b;node c;node d;");
        Check.due("turned round", house.same(0, 1), 1);
        Check.due("steps", house.map(-1), 8);
        int[] want = {2, 3, 0, 1};
        for (int i = 0; i < 4; i++) {
            Check.due("map of " + i, house.map(i), want[i]);
        }
        // A star and a path: 0 tries all four, as none has three neighbours.
        compared(4, "ab ac ad", "ab bc cd", 0, 4);
    }

    private static void theMapIsTheFirst() {
        DrawingHouse house = compared(4, "ab bc cd da", "ac cb bd da", 1, 5);
        int[] want = {0, 2, 1, 3};
        for (int i = 0; i < 4; i++) {
            Check.due("map of " + i, house.map(i), want[i]);
        }
    }

    private static void mapsOfNodesThatThereAre() {
        StringBuilder ring = new StringBuilder();
        for (int k = 0; k < 24; k++) {
            ring.append((char) ('a' + k)).append('-').append((char) ('a' + (k + 1) % 24)).append(';');
        }
        DrawingHouse house = Check.house(ring.toString());
        Check.due("a ring of 24", house.same(0, 0), 1);
        Check.due("the last node", house.map(23), 23);
        for (int w : new int[] {24, -2, Integer.MIN_VALUE, Integer.MAX_VALUE}) {
            Check.due("map of " + w, house.map(w), -1);
        }
        Check.read(house, 1, "node a;");
        Check.due("a smaller one", house.same(1, 1), 1);
        Check.due("has no node 1", house.map(1), -1);
        Check.due("one that is not", house.same(0, 1), 0);
        Check.due("leaves the map", house.map(0), 0);
        Check.due("of the latest that was 1", house.map(1), -1);
        house.change(1, 0, 0, 0);
        Check.due("a change leaves it, too", house.map(0), 0);
    }

    private static void oneWayFromTo() {
        String[] graphs = {"a-b;", "a>b;", "node a;b-a;", "node a;b>a;"};
        // By edges that are not one-way the two are joined alike, whichever is the tail.
        int[][] want = {{1, 0, 1, 0}, {0, 1, 0, 1}, {1, 0, 1, 0}, {0, 1, 0, 1}};
        for (int i = 0; i < 4; i++) {
            for (int j = 0; j < 4; j++) {
                DrawingHouse house = Check.house(graphs[i]);
                Check.read(house, 1, graphs[j]);
                Check.due(graphs[i] + " and " + graphs[j], house.same(0, 1), want[i][j]);
                int first = want[i][j] == 0 ? -1 : i % 2 == 1 && i != j ? 1 : 0;
                Check.due("node 0", house.map(0), first);
            }
        }
    }
}
