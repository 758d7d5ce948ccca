/** Promises 13 and 14: same, map. */
public final class SameTest {
    public static void main(String[] args) {
        mapsAreFound();
        onewayCounts();
        stepsAreBounded();
        Check.end();
    }

    private static void mapsAreFound() {
        DrawingHouse house = Check.house("a-b-c;");
        Check.due("two without nodes", house.same(1, 2), 1);
        Check.due("no steps", house.map(-1), 0);
        Check.due("no node", house.map(0), -1);
        Check.read(house, 1, "x-y;y-z;");
        Check.due("paths", house.same(0, 1), 1);
        // 0 to x, 1 to y, 2 to z: each try is the first that is left.
        Check.due("steps", house.map(-1), 3);
        Check.due("map of 1", house.map(1), 1);
        Check.read(house, 1, "m-l;m-r;");
        Check.due("the middle comes first", house.same(0, 1), 1);
        int[] want = {1, 0, 2};
        for (int i = 0; i < 3; i++) {
            Check.due("map of " + i, house.map(i), want[i]);
        }
        // 0: 0 has too many neighbours, 1 fits; 1: 0 fits; 2: 2 fits.
        Check.due("steps", house.map(-1), 4);
        Check.due("map of 3", house.map(3), -1);
        Check.due("map of -2", house.map(-2), -1);
        Check.due("map of the greatest", house.map(Integer.MAX_VALUE), -1);
        Check.read(house, 2, "x-y-z-x;");
        Check.due("more edges", house.same(0, 2), 0);
        Check.due("no steps for that", house.map(-1), 0);
        Check.due("the latest one that was 1 stays", house.map(0), 1);
        Check.due("place 4", house.same(0, 4), -1);
        Check.due("place -1", house.same(-1, 0), -1);
        Check.read(house, 3, "node p[size=7];group g{q-p[weight=5];node r;r-q;}");
        Check.due("weights, sizes, names, groups don't count", house.same(0, 3), 1);
    }

    private static void onewayCounts() {
        DrawingHouse house = Check.house("a>b;b-c;");
        Check.read(house, 1, "c-b;a>b;");
        Check.due("one-way likewise", house.same(0, 1), 1);
        Check.due("map of 0", house.map(0), 2);
        Check.read(house, 2, "b>a;b-c;");
        Check.due("the other way round", house.same(0, 2), 0);
        Check.read(house, 3, "a-b;b-c;");
        Check.due("not one-way", house.same(0, 3), 0);
    }

    private static void stepsAreBounded() {
        // A ring of 24 against two of 12: with as many neighbours each, tries go deep and fail.
        StringBuilder one = new StringBuilder();
        StringBuilder two = new StringBuilder();
        for (int k = 0; k < 24; k++) {
            one.append((char) ('a' + k)).append('-').append((char) ('a' + (k + 1) % 24)).append(';');
            two.append((char) ('a' + k)).append('-').append((char) ('a' + k / 12 * 12 + (k + 1) % 12)).append(';');
        }
        DrawingHouse house = Check.house(one.toString());
        Check.read(house, 1, two.toString());
        Check.due("rings", house.same(0, 1), 0);
        Check.due("itself", house.same(0, 0), 1);
        Check.due("steps", house.map(-1), 24);
        // Twelve edges that share no node: the last one of the second graph is one-way.
        StringBuilder pairs = new StringBuilder();
        StringBuilder nodes = new StringBuilder();
        for (int k = 0; k < 24; k++) {
            nodes.append("node ").append((char) ('a' + k)).append(';');
        }
        for (int k = 0; k < 12; k++) {
            pairs.append((char) ('a' + k)).append('-').append((char) ('a' + 12 + k)).append(k < 11 ? ";" : "");
        }
        Check.read(house, 2, nodes.toString() + pairs + ";");
        Check.read(house, 3, nodes.toString() + pairs.substring(0, pairs.length() - 3) + "l>x;");
        Check.due("steps are spent", house.same(2, 3), -2);
        Check.due("all of them", house.map(-1), 20000);
        Check.due("the latest map stays", house.map(23), 23);
    }
}
