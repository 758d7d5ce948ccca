/**
 * A graph that is laid anew, or taken back to, answers as it does in a new object: nothing stays of the
 * graph that was in its place, of that one's drawings, or of what was worked out for it.
 */
public final class UsedAgainTest {
    private static final String[] GRAPHS = {
        "",
        "node a;",
        "a-b-c-d-e-a-c-e-b-d-a;",
        "group g{node a[size=9];b-c[weight=4];}group h{c-a;d>a;}",
        "group g{}group h{}node a;b-a;",
        "a>b>c>d;a>d[weight=3];b>d;",
        "a-b;a-c;c-d;c-e;c-f;c-g;c-h;",
        "a-b-c-d-a-c;b-d;",
        "node a;node b;node c;node d;c-b;b-a;a-c;c-d;d-b[weight=2];",
        "a>c;a>d;b>c;b>d;c>f;d>e;",
        "h-g;c-a;c-b;h-e;f-b;d-c;h-a;e-d;e-c;e-a;h-f;",
        "a-b;c-d;node long_one;node e;",
    };
    private static final String STYLE = "node if deg>1:color=deg+core,width=9;edge if bridge=0:form=block+1,color=to;";

    public static void main(String[] args) {
        for (String graph : GRAPHS) {
            String fresh = structure(Check.house(graph));
            for (String before : GRAPHS) {
                Check.due(graph + " behind " + before, structure(readBehind(before, graph)), fresh);
            }
            Check.due(graph + " taken back to", structure(takenBackTo(graph)), fresh);
            for (int way = 0; way < 8; way++) {
                drawnAgain(graph, way);
            }
        }
        Check.end();
    }

    /** All that is worked out for a graph is worked out, and each way draws it. */
    private static void work(DrawingHouse house) {
        for (int what = 0; what < 6; what++) {
            house.count(0, what);
            house.planar(0, what);
        }
        for (int way = 0; way < 8; way++) {
            house.draw(0, way, way == 3 ? -1 : 8);
        }
        Check.style(house, 0, STYLE);
        house.text(0, 1);
        house.same(0, 0);
    }

    private static DrawingHouse readBehind(String before, String graph) {
        DrawingHouse house = Check.house(before);
        work(house);
        Check.read(house, 0, graph);
        return house;
    }

    private static DrawingHouse takenBackTo(String graph) {
        DrawingHouse house = Check.house(graph);
        house.change(0, 0, 0, 0);
        house.change(0, 1, 0, house.count(0, 0) - 1);
        house.change(0, 3, 0, 0);
        work(house);
        for (int k = 0; k < 4; k++) {
            house.back(0, 0);
        }
        return house;
    }

    private static void drawnAgain(String graph, int way) {
        String fresh = drawing(Check.house(graph), way);
        for (String before : GRAPHS) {
            Check.due("way " + way + " of " + graph + " behind " + before, drawing(readBehind(before, graph), way), fresh);
        }
        Check.due("way " + way + " of " + graph + ", taken back to", drawing(takenBackTo(graph), way), fresh);
        for (int other = 0; other < 8; other++) {
            DrawingHouse house = Check.house(graph);
            house.draw(0, way, way == 3 ? -1 : 8);
            house.draw(0, other, other == 3 ? -1 : 8);
            boolean refused = house.draw(0, way, way == 3 ? -1 : 8) != 0;
            if (!refused) {
                Check.due("way " + way + " of " + graph + " behind way " + other, drawing(house, way), fresh);
            }
        }
    }

    /** What there is of a graph, and one number more than there is of each. */
    private static String structure(DrawingHouse house) {
        StringBuilder row = new StringBuilder();
        for (int what = 0; what < 6; what++) {
            row.append(house.count(0, what)).append(' ').append(house.planar(0, what)).append(' ');
        }
        int nodes = house.count(0, 0);
        for (int i = 0; i <= nodes; i++) {
            for (int what = 0; what < 8; what++) {
                row.append(house.node(0, i, what)).append(' ');
            }
            row.append(house.letter(0, 0, i, 0)).append(house.letter(0, 0, i, 1)).append(' ').append(house.far(0, 0, i)).append(' ');
            for (int k = 0; k < 6; k++) {
                row.append(house.turn(0, 0, i, k)).append(' ');
            }
            row.append(house.shade(0, 0, i, 0)).append(' ').append(house.at(0, 0, i, 0)).append('\n');
        }
        for (int e = 0; e <= house.count(0, 1); e++) {
            for (int what = 0; what < 6; what++) {
                row.append(house.edge(0, e, what)).append(' ');
            }
            row.append(house.turn(0, 2, e, 0)).append(' ').append(house.shade(0, 1, e, 2)).append('\n');
        }
        for (int i = 0; i <= house.count(0, 2); i++) {
            row.append(house.group(0, i, 0)).append(house.group(0, i, 1)).append(house.group(0, i, 2)).append(house.letter(0, 1, i, 0)).append(' ');
        }
        for (int face = 0; face <= Math.max(0, house.planar(0, 2)); face++) {
            for (int k = 0; k < 5; k++) {
                row.append(house.turn(0, 1, face, k)).append(' ');
            }
        }
        return row.append(house.told(0, 0, 0)).append(house.text(0, 0)).toString();
    }

    private static String drawing(DrawingHouse house, int way) {
        StringBuilder row = new StringBuilder("draw ");
        row.append(house.draw(0, way, way == 3 ? -1 : 8)).append('\n');
        for (int i = 0; i <= house.count(0, 0); i++) {
            row.append(house.at(0, 0, i, 0)).append(',').append(house.at(0, 1, i, 0)).append(' ');
        }
        for (int e = 0; e <= house.count(0, 1); e++) {
            row.append(house.at(0, 2, e, 0)).append(':').append(house.at(0, 3, e, 0)).append(',').append(house.at(0, 4, e, 1)).append(' ');
        }
        for (int what = 0; what < 16; what++) {
            for (int i = 0; i < 9; i++) {
                row.append(house.told(0, what, i)).append(' ');
            }
        }
        for (int rule = 0; rule < 10; rule++) {
            row.append(house.judge(0, rule)).append(' ');
        }
        row.append(house.route(0, 0)).append(' ').append(house.label(0, 0, 0)).append(' ').append(house.label(0, 4, 1)).append(' ');
        return row.append(house.text(0, 1)).append(' ').append(house.dots(0, 9, 9)).append(house.dot(4, 4)).toString();
    }
}
