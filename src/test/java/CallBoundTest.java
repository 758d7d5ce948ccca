/**
 * The bound of 512 calls: an object answers all of them as it answers the first ones, whatever it was
 * used for; and no later call throws, though its answer is free.
 */
public final class CallBoundTest {
    private static final int BOUND = 512;
    /** Texts of graphs that need all kinds of rows: planar or not, with groups, rings, weights, joints. */
    private static final String[] GRAPHS = {
        "a-b-c-d-e-a-c-e-b-d-a;",
        "node s[size=5];s>a>b>t;s>c>t[weight=9];b>d>s;group g{node u;u-v[weight=2];group h{w>u;}}",
        "a-b-c-d-a;a-c;b-d;",
        "r-a;r-b;a-c;a-d;b-e;node z;",
        "node only;",
    };

    private DrawingHouse house = new DrawingHouse();
    private int calls = 0;
    private StringBuilder answers = new StringBuilder();

    public static void main(String[] args) {
        for (int shift = 0; shift < GRAPHS.length; shift++) {
            new CallBoundTest().useToTheEnd(shift);
        }
        sameCallAllAlong();
        Check.end();
    }

    private void answer(long value) {
        calls++;
        answers.append(value).append(' ');
    }

    /** Rounds of calls until the bound is met; each answers as it does in a new object. */
    private void useToTheEnd(int shift) {
        int round = shift;
        while (calls < BOUND) {
            String graph = GRAPHS[round % GRAPHS.length];
            answers = new StringBuilder();
            round(graph, round % 4);
            CallBoundTest fresh = new CallBoundTest();
            fresh.round(graph, round % 4);
            // The round that goes beyond the bound is free from there on.
            if (calls <= BOUND) {
                Check.due("round " + round + " of " + graph, answers.toString(), fresh.answers.toString());
            }
            round++;
        }
        for (int k = 0; k < 3; k++) {
            round(GRAPHS[k], k);
        }
    }

    private void round(String graph, int g) {
        for (int start = 0; start < graph.length(); start += 20) {
            Check.feed(house, graph.substring(start, Math.min(start + 20, graph.length())));
            calls++;
        }
        answer(house.read(g, graph.length()));
        answer(house.fault(0));
        answer(house.count(g, 4));
        answer(house.planar(g, 0));
        answer(house.planar(g, 1));
        answer(house.turn(g, 0, 1, 1));
        answer(house.same(g, g));
        answer(house.map(-1));
        for (int way = 0; way < 8; way++) {
            answer(house.draw(g, way, way == 3 ? 1 : 50));
            answer(house.at(g, 0, 2, 0));
            answer(house.at(g, 1, 1, 0));
        }
        answer(house.route(g, 1));
        answer(house.judge(g, 8));
        answer(house.text(g, 1));
        answer(house.octet(7));
        answer(house.dots(g, 30, 20));
        answer(house.dot(3, 4));
        answer(house.change(g, 0, 0, 0));
        answer(house.change(g, 3, 0, 0));
        answer(house.back(g, 0) ? 1 : 0);
        answer(house.count(g, 6));
        answer(house.count(g, 7));
        answer(house.node(g, 0, 7));
        answer(house.text(g, 0));
        answer(house.octet(5));
    }

    /** One and the same call, 500 times. */
    private static void sameCallAllAlong() {
        DrawingHouse house = Check.house(GRAPHS[1]);
        for (int k = 0; k < 500; k++) {
            Check.due("size, call " + k, house.change(0, 4, 0, 1 + k % 99), 0);
        }
        Check.due("can be taken back", house.count(0, 6), 30);
        Check.due("the size set last", house.node(0, 0, 1), 1 + 499 % 99);
        DrawingHouse fed = new DrawingHouse();
        for (int k = 1; k <= BOUND; k++) {
            Check.due("feed, call " + k, fed.feed(k, k, k, k, k), k <= 100 ? 20 * k : -1);
        }
    }
}
