/**
 * Places, numbers and kinds that there are and that there are not, of a full graph: promises 5 to 9, 12,
 * 16, 18, 19, 22, 23 and 25. Each number is asked at its first, its last, and one beyond both.
 */
public final class NumberBoundsTest {
    private static final int NO_POINT = Integer.MIN_VALUE;
    private static final int[] FAR = {Integer.MIN_VALUE, Integer.MIN_VALUE + 1, Integer.MAX_VALUE - 1, Integer.MAX_VALUE};

    public static void main(String[] args) {
        countsOfAFullGraph();
        nodesOfAFullGraph();
        edgesOfAFullGraph();
        groupsOfAFullGraph();
        lettersOfNames();
        distances();
        ordersAndFaces();
        whatBars();
        pointsAndBends();
        whatWaysTold();
        labelsAndRules();
        shades();
        aGraphWithoutNodes();
        Check.end();
    }

    /** 24 nodes on a ring and 24 chords: 48 edges; seven groups besides group 0. */
    private static String full() {
        StringBuilder text = new StringBuilder("group g1{group g2{group g3{group g4{}}}}group g5{}group g6{}group last7{node n_______[size=99];}");
        for (int k = 0; k < 24; k++) {
            text.append(name(k)).append('-').append(name((k + 1) % 24)).append(';');
        }
        for (int k = 0; k < 24; k++) {
            text.append(name(k)).append('>').append(name((k + 2) % 24)).append(k == 23 ? "[weight=9];" : ";");
        }
        return text.toString();
    }

    private static String name(int k) {
        return k == 0 ? "n_______" : "n" + (char) ('a' + k);
    }

    private interface Asked {
        long of(int k);
    }

    /** Numbers from 0 to the last have an answer other than that for none; those beyond have that one. */
    private static void numbers(String what, int last, long none, Asked asked) {
        Check.due(what + " 0", asked.of(0) != none, true);
        Check.due(what + " " + last, asked.of(last) != none, true);
        Check.due(what + " -1", asked.of(-1), none);
        Check.due(what + " -2", asked.of(-2), none);
        Check.due(what + " " + (last + 1), asked.of(last + 1), none);
        Check.due(what + " " + (last + 2), asked.of(last + 2), none);
        for (int k : FAR) {
            Check.due(what + " " + k, asked.of(k), none);
        }
    }

    private static void countsOfAFullGraph() {
        DrawingHouse house = Check.house(full());
        long[] want = {24, 48, 8, 1, 1, 1, 0, 0};
        for (int what = 0; what < 8; what++) {
            Check.due("count " + what, house.count(0, what), want[what]);
        }
        numbers("count", 7, -1, k -> house.count(0, k));
        numbers("count in place", 3, -1, k -> house.count(k, 2));
    }

    private static void nodesOfAFullGraph() {
        DrawingHouse house = Check.house(full());
        for (int what = 0; what < 8; what++) {
            int asked = what;
            numbers("node, what " + what + " of", 23, -1, k -> house.node(0, k, asked));
        }
        numbers("node, what", 7, -1, k -> house.node(0, 23, k));
        Check.due("bytes of the longest name", house.node(0, 0, 0), 8);
        Check.due("the greatest size", house.node(0, 0, 1), 99);
        Check.due("the last group", house.node(0, 0, 2), 7);
        Check.due("neighbours", house.node(0, 23, 3), 4);
        Check.due("core", house.node(0, 23, 7), 4);
    }

    private static void edgesOfAFullGraph() {
        DrawingHouse house = Check.house(full());
        for (int what = 0; what < 6; what++) {
            int asked = what;
            numbers("edge, what " + what + " of", 47, -1, k -> house.edge(0, k, asked));
        }
        numbers("edge, what", 5, -1, k -> house.edge(0, 47, k));
        long[] want = {23, 1, 9, 1, 0, 0};
        for (int what = 0; what < 6; what++) {
            Check.due("edge 47, " + what, house.edge(0, 47, what), want[what]);
        }
    }

    private static void groupsOfAFullGraph() {
        DrawingHouse house = Check.house(full());
        numbers("bytes of group", 7, -1, k -> house.group(0, k, 1));
        numbers("sizes of group", 7, -1, k -> house.group(0, k, 2));
        numbers("group 7, what", 2, -1, k -> house.group(0, 7, k));
        long[] within = {-1, 0, 1, 2, 3, 0, 0, 0, -1};
        for (int i = 0; i < 9; i++) {
            Check.due("group " + i + " lies in", house.group(0, i, 0), within[i]);
        }
        Check.due("in group 0 are all", house.group(0, 0, 2), 99 + 23);
        Check.due("in group 7", house.group(0, 7, 2), 99);
        Check.due("in none of group 1", house.group(0, 1, 2), 0);
        Check.due("group 0 has no name", house.group(0, 0, 1), 0);
    }

    private static void lettersOfNames() {
        DrawingHouse house = Check.house(full());
        numbers("letter of node 0", 7, -1, k -> house.letter(0, 0, 0, k));
        numbers("letter of node 23", 1, -1, k -> house.letter(0, 0, 23, k));
        numbers("first letter of node", 23, -1, k -> house.letter(0, 0, k, 0));
        numbers("letter of group 7", 4, -1, k -> house.letter(0, 1, 7, k));
        numbers("letter of kind", 1, -1, k -> house.letter(0, k, 1, 0));
        numbers("letter in place", 0, -1, k -> house.letter(k, 0, 0, 0));
        for (int k = -1; k < 2; k++) {
            Check.due("letter of group 0", house.letter(0, 1, 0, k), -1);
        }
        Check.due("letter of group 8", house.letter(0, 1, 8, 0), -1);
        Check.due("letter of group -1", house.letter(0, 1, -1, 0), -1);
    }

    private static void distances() {
        DrawingHouse house = Check.house(full());
        numbers("far from 0 to", 23, -1, k -> house.far(0, 0, k));
        numbers("far from 23 to", 23, -1, k -> house.far(0, 23, k));
        numbers("far to 23 from", 23, -1, k -> house.far(0, k, 23));
        Check.due("to itself", house.far(0, 23, 23), 0);
        Check.due("to the other side", house.far(0, 0, 12), 6);
        StringBuilder path = new StringBuilder();
        for (int k = 0; k < 23; k++) {
            path.append("v").append((char) ('a' + k)).append(">v").append((char) ('b' + k)).append(';');
        }
        Check.due("the farthest, against one-way edges", Check.house(path.toString()).far(0, 23, 0), 23);
        Check.due("different parts", Check.house("a-b;c-d;").far(0, 1, 2), -1);
        Check.due("different parts without edges", Check.house("node a;node b;").far(0, 0, 1), -1);
    }

    private static void ordersAndFaces() {
        DrawingHouse house = Check.house("a-b-c-a;c-d;node e;");
        numbers("planar", 2, -1, k -> house.planar(0, k));
        numbers("around c", 2, -1, k -> house.turn(0, 0, 2, k));
        numbers("first around", 3, -1, k -> house.turn(0, 0, k, 0));
        Check.due("around a node without edges", house.turn(0, 0, 4, 0), -1);
        numbers("first of face", 1, -1, k -> house.turn(0, 1, k, 0));
        numbers("face 0", 2, -1, k -> house.turn(0, 1, 0, k));
        numbers("face 1", 4, -1, k -> house.turn(0, 1, 1, k));
        numbers("turn, what", 1, -1, k -> house.turn(0, k, 0, 0));
        Check.due("nothing bars it", house.turn(0, 2, 0, 0), -1);
        Check.due("no kind", house.planar(0, 3), -1);
        Check.due("no edges of that", house.planar(0, 4), -1);
    }

    private static void whatBars() {
        DrawingHouse house = Check.house("a-b-c-d-e-a-c-e-b-d-a;e-f;");
        numbers("edge of what bars it", 9, -1, k -> house.turn(0, 2, k, 0));
        for (int k : FAR) {
            Check.due("k is not looked at", house.turn(0, 2, 9, k), 9);
        }
        Check.due("no faces", house.planar(0, 2), -1);
        Check.due("planar, what 4", house.planar(0, 4), 10);
        Check.due("planar, what 5", house.planar(0, 5), -1);
        Check.due("planar, what -1", house.planar(0, -1), -1);
        for (int k = -1; k < 3; k++) {
            Check.due("no order", house.turn(0, 0, 0, k), -1);
            Check.due("no face", house.turn(0, 1, 0, k), -1);
        }
    }

    private static void pointsAndBends() {
        DrawingHouse house = Check.house("a>b>c>d;a>d;");
        for (int what = -1; what < 6; what++) {
            Check.due("without a drawing, " + what, house.at(0, what, 0, 0), NO_POINT);
        }
        house.draw(0, 0, 0);
        numbers("x of node", 3, NO_POINT, k -> house.at(0, 0, k, 0));
        numbers("y of node", 3, NO_POINT, k -> house.at(0, 1, k, 0));
        numbers("bends of edge", 3, NO_POINT, k -> house.at(0, 2, k, 0));
        numbers("x of bend", 1, NO_POINT, k -> house.at(0, 3, 3, k));
        numbers("y of bend", 1, NO_POINT, k -> house.at(0, 4, 3, k));
        numbers("at", 4, NO_POINT, k -> house.at(0, k, 3, 0));
        Check.due("no bends", house.at(0, 2, 0, 0), 0);
        Check.due("no bend 0", house.at(0, 3, 0, 0), NO_POINT);
        for (int k : FAR) {
            Check.due("k is not looked at for x", house.at(0, 0, 3, k), house.at(0, 0, 3, 0));
            Check.due("k is not looked at for y", house.at(0, 1, 3, k), 15);
            Check.due("k is not looked at for bends", house.at(0, 2, 3, k), 2);
        }
    }

    private static void whatWaysTold() {
        DrawingHouse house = Check.house("group g{a-b-c-a;}group h{}");
        int[][] of = {{0, 1, 2, 3, 4}, {0}, {0, 15}, {}, {0, 6, 7, 8, 9, 10, 11, 12, 13}, {0, 14}, {0}, {0, 5}};
        for (int what = -1; what < 17; what++) {
            Check.due("without a drawing, " + what, house.told(0, what, 0), -1);
        }
        for (int way = 0; way < 8; way++) {
            if (way == 3) {
                continue;
            }
            Check.due("draw " + way, house.draw(0, way, 8), 0);
            for (int what = -1; what < 17; what++) {
                boolean told = false;
                for (int k : of[way]) {
                    told = told || k == what;
                }
                Check.due("way " + way + " told " + what, house.told(0, what, 0) != -1, told);
            }
        }
        house.draw(0, 0, 0);
        numbers("layer of node", 2, -1, k -> house.told(0, 3, k));
        numbers("turned edge", 2, -1, k -> house.told(0, 4, k));
        house.draw(0, 2, 0);
        numbers("number of node", 2, -1, k -> house.told(0, 15, k));
        house.draw(0, 4, 8);
        for (int what = 6; what <= 13; what++) {
            int asked = what;
            numbers("told " + what + " of", 2, -1, k -> house.told(0, asked, k));
        }
        for (int what = 10; what <= 13; what++) {
            Check.due("an empty group's, " + what, house.told(0, what, 2), 0);
        }
        // More nodes than groups, then more groups than nodes.
        Check.due("group 3", house.told(0, 10, 3), -1);
        DrawingHouse few = Check.house("group g{}group h{}node a;");
        few.draw(0, 4, 8);
        for (int what = 6; what <= 13; what++) {
            Check.due("told " + what + " of 1", few.told(0, what, 1), what < 10 ? -1 : 0);
            Check.due("told " + what + " of 3", few.told(0, what, 3), -1);
        }
    }

    private static void labelsAndRules() {
        DrawingHouse house = Check.house("a-b[weight=9];b-c;c-d[weight=2];");
        Check.due("without a drawing", house.label(0, 0, 0), NO_POINT);
        for (int rule = -1; rule < 11; rule++) {
            Check.due("without a drawing, rule " + rule, house.judge(0, rule), -1);
        }
        house.draw(0, 3, 0);
        for (int i = 0; i < 4; i++) {
            house.put(0, i, -1, 20 * i, 0);
        }
        numbers("label of edge", 2, NO_POINT, k -> house.label(0, k, 0));
        numbers("label, what", 1, NO_POINT, k -> house.label(0, 0, k));
        Check.due("weight 1", house.label(0, 1, 0), NO_POINT);
        Check.due("weight 1", house.label(0, 1, 1), NO_POINT);
        Check.due("weight 2", house.label(0, 2, 0), 50);
        numbers("rule", 8, -1, k -> house.judge(0, k == 9 ? 10 : k));
        Check.due("rule 9 without a triangle", house.judge(0, 9), -1);
    }

    private static void shades() {
        DrawingHouse house = Check.house(full());
        numbers("color of node", 23, -1, k -> house.shade(0, 0, k, 0));
        numbers("form of edge", 47, -1, k -> house.shade(0, 1, k, 2));
        numbers("shade of kind", 1, -1, k -> house.shade(0, k, 0, 0));
        numbers("shade of a node, what", 2, -1, k -> house.shade(0, 0, 23, k));
        numbers("shade of an edge, what", 2, -1, k -> house.shade(0, 1, 47, k));
        Check.style(house, 0, "node if size=1:form=deg;edge if weight=9:form=255;");
        Check.due("the last node's", house.shade(0, 0, 23, 2), 4);
        Check.due("the first node's", house.shade(0, 0, 0, 2), 0);
        Check.due("the last edge's", house.shade(0, 1, 47, 2), 255);
        Check.due("the one ahead of it", house.shade(0, 1, 46, 2), 0);
    }

    private static void aGraphWithoutNodes() {
        DrawingHouse house = new DrawingHouse();
        for (int what = 0; what < 8; what++) {
            Check.due("node 0, " + what, house.node(0, 0, what), -1);
            Check.due("edge 0, " + what, house.edge(0, 0, what), -1);
            Check.due("told " + what, house.told(0, what, 0), -1);
            Check.due("draw " + what, house.draw(0, what, 8), -1);
        }
        int[] planar = {1, 1, 0, -1, -1};
        for (int what = 0; what < 5; what++) {
            Check.due("planar " + what, house.planar(0, what), planar[what]);
        }
        for (int what = 0; what < 3; what++) {
            Check.due("turn " + what, house.turn(0, what, 0, 0), -1);
            Check.due("shade of a node, " + what, house.shade(0, 0, 0, what), -1);
            Check.due("shade of an edge, " + what, house.shade(0, 1, 0, what), -1);
        }
        Check.due("letter", house.letter(0, 0, 0, 0), -1);
        Check.due("far", house.far(0, 0, 0), -1);
        Check.due("put", house.put(0, 0, -1, 0, 0), false);
        Check.due("route", house.route(0, 0), -1);
        Check.due("label", house.label(0, 0, 0), NO_POINT);
        Check.due("judge", house.judge(0, 7), -1);
        Check.due("its drawing's text", house.text(0, 1), -1);
        Check.due("its text", house.text(0, 0), 0);
        Check.due("dots", house.dots(0, 1, 1), -1);
        Check.due("a style for it", Check.style(house, 0, "node if 1=1:color=1;edge if 1=1:color=1;"), 2);
        Check.due("same as another one", house.same(0, 3), 1);
        Check.due("by no steps", house.map(-1), 0);
    }
}
