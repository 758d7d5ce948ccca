import java.util.ArrayList;
import java.util.List;
import java.util.function.Consumer;
import java.util.function.ToLongFunction;

/**
 * What stays when a call is refused: a house is made ready, a call that must be refused is made on it,
 * and then all that the house answers is compared with what one answers that has not heard the call.
 * As an object is used for at most 512 calls, the questions are asked in portions, each of a new house.
 */
public final class RefusedCallsTest {
    private static final int NO_POINT = Integer.MIN_VALUE;
    private static final int MIN = Integer.MIN_VALUE;
    private static final int MAX = Integer.MAX_VALUE;
    private static final int PORTION = 400;
    private static final String TAPE = "p-q;node if 1=1:wid;";

    private static final List<ToLongFunction<DrawingHouse>> STATE = new ArrayList<>();
    private static final List<ToLongFunction<DrawingHouse>> LAST_FAULT = new ArrayList<>();
    private static final List<ToLongFunction<DrawingHouse>> TAKEN = new ArrayList<>();

    public static void main(String[] args) {
        for (int g = 0; g < 4; g++) {
            listGraph(g);
            listDrawing(g);
        }
        listOut();
        wrongPlaces();
        refusedReadsAndStyles();
        refusedChanges();
        refusedDrawings();
        refusedPoints();
        refusedOut();
        faultsLeaveAllButTheTape();
        theFullTape();
        Check.end();
    }

    /** Place 0 has changes both ways, a drawing with a bend, and shades; place 1 is not planar; 2 has no nodes. */
    private static DrawingHouse ready() {
        DrawingHouse house = Check.house("group g{node ab[size=3];}ab>b[weight=2];b>c;c>ab;c-d;");
        house.change(0, 4, 1, 7);
        house.change(0, 5, 3, 9);
        house.change(0, 7, 3, 1);
        house.back(0, 0);
        house.draw(0, 0, 0);
        Check.style(house, 0, "node if 1=1:color=size+9,width=2;edge if 1=1:form=7,color=weight;");
        Check.read(house, 1, "a-b-c-d-e-a-c-e-b-d-a;");
        house.draw(1, 7, 0);
        house.same(0, 0);
        house.same(1, 0);
        house.text(0, 1);
        house.dots(0, 3, 4);
        Check.style(house, 0, "node if !");
        Check.feed(house, TAPE);
        return house;
    }

    private static void listGraph(int g) {
        int nodes = g < 2 ? 5 : 1;
        int edges = g == 0 ? 5 : g == 1 ? 10 : 1;
        for (int what = 0; what < 8; what++) {
            ask(g, what, (house, a) -> house.count(a[0], a[1]));
            for (int i = 0; i < nodes; i++) {
                ask(g, i, what, (house, a) -> house.node(a[0], a[1], a[2]));
            }
        }
        for (int e = 0; e < edges; e++) {
            for (int what = 0; what < 6; what++) {
                ask(g, e, what, (house, a) -> house.edge(a[0], a[1], a[2]));
            }
            ask(g, e, (house, a) -> house.turn(a[0], 2, a[1], 0));
        }
        for (int i = 0; i < 3; i++) {
            for (int k = 0; k < 3; k++) {
                ask(g, i, k, (house, a) -> house.group(a[0], a[1], a[2]));
                ask(g, i, k, (house, a) -> house.letter(a[0], 0, a[1], a[2]));
                ask(g, i, k, (house, a) -> house.letter(a[0], 1, a[1], a[2]));
                ask(g, i, k, (house, a) -> house.turn(a[0], 0, a[1], a[2]));
                ask(g, i, k, (house, a) -> house.turn(a[0], 1, a[1], a[2]));
                ask(g, i, k, (house, a) -> house.far(a[0], a[1], a[2]));
            }
        }
        for (int what = 0; what < 5; what++) {
            ask(g, what, (house, a) -> house.planar(a[0], a[1]));
        }
    }

    private static void listDrawing(int g) {
        int edges = g == 0 ? 4 : g == 1 ? 10 : 1;
        for (int i = 0; i < 5; i++) {
            ask(g, i, (house, a) -> house.at(a[0], 0, a[1], 0));
            ask(g, i, (house, a) -> house.at(a[0], 1, a[1], 0));
            for (int what = 0; what < 3; what++) {
                ask(g, i, what, (house, a) -> house.shade(a[0], 0, a[1], a[2]));
            }
        }
        for (int e = 0; e < edges; e++) {
            for (int what = 2; what < 5; what++) {
                ask(g, e, what, (house, a) -> house.at(a[0], a[2], a[1], 0));
                ask(g, e, what - 2, (house, a) -> house.shade(a[0], 1, a[1], a[2]));
            }
            ask(g, e, (house, a) -> house.label(a[0], a[1], 0));
            ask(g, e, (house, a) -> house.label(a[0], a[1], 1));
        }
        for (int what = 0; what < 16; what++) {
            ask(g, what, (house, a) -> house.told(a[0], a[1], 2));
        }
        for (int rule = 0; rule < 10; rule++) {
            ask(g, rule, (house, a) -> house.judge(a[0], a[1]));
        }
    }

    private static void listOut() {
        for (int i = -1; i < 5; i++) {
            ask(i, 0, (house, a) -> house.map(a[0]));
        }
        for (int i = 0; i < 60; i++) {
            ask(i, 0, (house, a) -> house.octet(a[0]));
        }
        for (int k = 0; k < 20; k++) {
            ask(k % 4, k / 4, (house, a) -> house.dot(a[0], a[1]));
        }
        for (int what = 0; what < 2; what++) {
            int asked = what;
            LAST_FAULT.add(house -> house.fault(asked));
        }
        // What is on the tape is seen by reading it; what can be taken back, by taking it back.
        TAKEN.add(house -> house.read(3, 21));
        TAKEN.add(house -> house.read(3, 4));
        TAKEN.add(house -> house.letter(3, 0, 1, 0));
        TAKEN.add(house -> house.back(0, 1) ? 1 : 0);
        TAKEN.add(house -> house.edge(0, 3, 3));
        for (int k = 0; k < 4; k++) {
            TAKEN.add(house -> house.back(0, 0) ? 1 : 0);
            TAKEN.add(house -> house.node(0, 1, 1));
            TAKEN.add(house -> house.edge(0, 3, 2));
        }
    }

    private interface Question {
        long of(DrawingHouse house, int[] a);
    }

    private static void ask(int a, int b, Question question) {
        STATE.add(house -> question.of(house, new int[] {a, b}));
    }

    private static void ask(int a, int b, int c, Question question) {
        STATE.add(house -> question.of(house, new int[] {a, b, c}));
    }

    private static List<Long> answers(List<ToLongFunction<DrawingHouse>> questions, Consumer<DrawingHouse> first) {
        List<Long> found = new ArrayList<>();
        DrawingHouse house = null;
        for (int k = 0; k < questions.size(); k++) {
            if (k % PORTION == 0) {
                house = ready();
                first.accept(house);
            }
            found.add(questions.get(k).applyAsLong(house));
        }
        return found;
    }

    private static void unchanged(String call, List<ToLongFunction<DrawingHouse>> questions, Consumer<DrawingHouse> refused) {
        List<Long> before = answers(questions, house -> { });
        List<Long> after = answers(questions, refused);
        for (int k = 0; k < before.size(); k++) {
            Check.due("behind " + call + ", question " + k, after.get(k), before.get(k));
        }
    }

    /** The call's answer, and that nothing has changed. */
    private static void refused(String call, long want, ToLongFunction<DrawingHouse> refused) {
        Check.due(call, refused.applyAsLong(ready()), want);
        unchanged(call, STATE, refused::applyAsLong);
        unchanged(call, LAST_FAULT, refused::applyAsLong);
        unchanged(call, TAKEN, refused::applyAsLong);
    }

    private static int asInt(boolean answer) {
        return answer ? 1 : 0;
    }

    private static void wrongPlaces() {
        for (int g : new int[] {-1, 4, MIN, MAX}) {
            refused("read in " + g, -2, house -> house.read(g, 4));
            refused("count in " + g, -1, house -> house.count(g, 0));
            refused("node in " + g, -1, house -> house.node(g, 0, 0));
            refused("edge in " + g, -1, house -> house.edge(g, 0, 0));
            refused("group in " + g, -1, house -> house.group(g, 0, 1));
            refused("letter in " + g, -1, house -> house.letter(g, 0, 0, 0));
            refused("change in " + g, -1, house -> house.change(g, 0, 0, 0));
            refused("taking back in " + g, 0, house -> asInt(house.back(g, 0)));
            refused("doing again in " + g, 0, house -> asInt(house.back(g, 1)));
            refused("far in " + g, -1, house -> house.far(g, 0, 0));
            refused("same in " + g, -1, house -> house.same(g, 0));
            refused("same, too, in " + g, -1, house -> house.same(0, g));
            refused("planar in " + g, -1, house -> house.planar(g, 0));
            refused("turn in " + g, -1, house -> house.turn(g, 0, 0, 0));
            refused("draw in " + g, -1, house -> house.draw(g, 7, 0));
            refused("at in " + g, NO_POINT, house -> house.at(g, 0, 0, 0));
            refused("told in " + g, -1, house -> house.told(g, 0, 0));
            refused("put in " + g, 0, house -> asInt(house.put(g, 0, -1, 0, 0)));
            refused("route in " + g, -1, house -> house.route(g, 0));
            refused("label in " + g, NO_POINT, house -> house.label(g, 0, 0));
            refused("judge in " + g, -1, house -> house.judge(g, 0));
            refused("style in " + g, -2, house -> house.style(g, 0));
            refused("shade in " + g, -1, house -> house.shade(g, 0, 0, 0));
            refused("text in " + g, -1, house -> house.text(g, 0));
            refused("drawing's text in " + g, -1, house -> house.text(g, 1));
            refused("dots in " + g, -1, house -> house.dots(g, 2, 2));
        }
    }

    private static void refusedReadsAndStyles() {
        for (int n : new int[] {-1, 21, MIN, MAX}) {
            refused("read of " + n, -2, house -> house.read(0, n));
            refused("style of " + n, -2, house -> house.style(0, n));
        }
    }

    private static void refusedChanges() {
        int[][] wrong = {
            {0, 0, -1, 0}, {0, 0, 2, 0}, {0, 1, 0, 1}, {0, 1, 1, 0}, {0, 1, 2, 2}, {0, 1, 0, 4}, {0, 1, -1, 0}, {0, 2, 4, 0}, {0, 2, -1, 0},
            {0, 3, 4, 0}, {0, 3, -1, 0}, {0, 4, 0, 0}, {0, 4, 0, 100}, {0, 4, 4, 5}, {0, 5, 0, 0}, {0, 5, 0, 10}, {0, 5, 4, 5},
            {0, 6, 0, 2}, {0, 6, 0, -1}, {0, 6, 4, 0}, {0, 7, 0, 2}, {0, 7, 0, -1}, {0, 7, 4, 1}, {0, 8, 0, 0}, {0, -1, 0, 0},
            {2, 1, 0, 1}, {2, 2, 0, 0}, {2, 3, 0, 0}, {2, 4, 0, 1},
        };
        for (int[] w : wrong) {
            String call = "change " + w[0] + " " + w[1] + " " + w[2] + " " + w[3];
            refused(call, -1, house -> house.change(w[0], w[1], w[2], w[3]));
        }
        refused("nothing to take back", 0, house -> asInt(house.back(1, 0)));
        refused("nothing to do again", 0, house -> asInt(house.back(1, 1)));
        refused("redo 2", 0, house -> asInt(house.back(0, 2)));
        refused("redo -1", 0, house -> asInt(house.back(0, -1)));
    }

    private static void refusedDrawings() {
        int[][] wrong = {
            {0, -1, 0, -1}, {0, 8, 0, -1}, {0, MIN, 0, -1}, {0, MAX, 0, -1}, {2, 0, 0, -1}, {2, 7, 0, -1}, {2, 4, 7, -1},
            {1, 1, 0, -2}, {0, 2, 0, -2}, {1, 2, 0, -2}, {0, 3, -1, -2}, {0, 3, 4, -2}, {0, 3, -2, -2}, {0, 4, 7, -2}, {0, 4, 513, -2},
            {0, 6, -1, -2}, {0, 6, 201, -2}, {1, 6, MIN, -2}, {1, 4, MAX, -2},
        };
        for (int[] w : wrong) {
            refused("draw " + w[0] + " " + w[1] + " " + w[2], w[3], house -> house.draw(w[0], w[1], w[2]));
        }
    }

    private static void refusedPoints() {
        int[][] wrong = {
            {0, 4, -1, 0, 0}, {0, -1, -1, 0, 0}, {0, 0, 0, 0, 0}, {0, 2, 1, 0, 0}, {0, 2, -2, 0, 0}, {0, 4, 0, 0, 0}, {0, -1, 0, 0, 0},
            {0, 0, -1, 1000001, 0}, {0, 0, -1, -1000001, 0}, {0, 0, -1, 0, 1000001}, {0, 0, -1, 0, -1000001}, {0, 2, 0, 1000001, 0},
            {0, 2, 0, 0, -1000001}, {2, 0, -1, 0, 0}, {0, 0, -1, MIN, MAX},
        };
        for (int[] w : wrong) {
            String call = "put " + w[0] + " " + w[1] + " " + w[2] + " " + w[3] + " " + w[4];
            refused(call, 0, house -> asInt(house.put(w[0], w[1], w[2], w[3], w[4])));
        }
        refused("route of edge 4", -1, house -> house.route(0, 4));
        refused("route of edge -1", -1, house -> house.route(0, -1));
        refused("route without a drawing", -1, house -> house.route(2, 0));
        refused("label of edge 4", NO_POINT, house -> house.label(0, 4, 0));
        refused("label without a drawing", NO_POINT, house -> house.label(2, 0, 0));
        refused("rule 10", -1, house -> house.judge(0, 10));
        refused("rule -1", -1, house -> house.judge(0, -1));
    }

    private static void refusedOut() {
        refused("text of no drawing", -1, house -> house.text(2, 1));
        refused("text, what 2", -1, house -> house.text(0, 2));
        refused("text, what -1", -1, house -> house.text(0, -1));
        int[][] wrong = {{0, 0, 1}, {0, 1, 0}, {0, 65, 1}, {0, 1, 65}, {0, -1, 1}, {0, 1, -1}, {2, 1, 1}, {3, 64, 64}, {0, MAX, MAX}, {0, MIN, MIN}};
        for (int[] w : wrong) {
            refused("dots " + w[0] + " " + w[1] + " " + w[2], -1, house -> house.dots(w[0], w[1], w[2]));
        }
    }

    /** A text or style with a fault is taken off the tape and has its fault told: all else stays. */
    private static void faultsLeaveAllButTheTape() {
        for (int g = 0; g < 4; g++) {
            int place = g;
            Check.due("a text with a fault", ready().read(place, 5), -1);
            unchanged("a text with a fault in " + place, STATE, house -> house.read(place, 5));
            Check.due("a style with a fault", ready().style(place, 20), -1);
            unchanged("a style with a fault in " + place, STATE, house -> house.style(place, 20));
        }
    }

    private static void theFullTape() {
        DrawingHouse house = new DrawingHouse();
        Check.feed(house, " ".repeat(1996) + "a-b;");
        Check.due("a feed beyond 2,000", house.feed(0x63646566, 0, 0, 0, 0), -1);
        Check.due("no byte came", house.read(0, 2001), -2);
        Check.due("no byte is another one", house.read(0, 2000), 2);
    }
}
