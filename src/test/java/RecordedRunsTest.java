import java.io.IOException;
import java.nio.file.Files;
import java.nio.file.Path;

/**
 * Runs of calls with the answers that are due, from src/test/resources/runs.txt: "new" begins an
 * object, each other line has a call's name, its arguments, and its answer. The answers were worked out
 * by a second, plain model of the document, which tries all orders, ways and cuts where it can.
 */
public final class RecordedRunsTest {
    private static int[] a;

    public static void main(String[] args) throws IOException {
        Path runs = Path.of(args.length > 0 ? args[0] : ".", "src/test/resources/runs.txt");
        DrawingHouse house = null;
        int run = 0;
        for (String line : Files.readAllLines(runs)) {
            if (line.equals("new")) {
                house = new DrawingHouse();
                run++;
                continue;
            }
            String[] words = line.split(" ");
            a = new int[words.length - 2];
            for (int k = 0; k < a.length; k++) {
                a[k] = Integer.parseInt(words[k + 1]);
            }
            Check.due("run " + run + ": " + line, call(house, words[0]), Long.parseLong(words[words.length - 1]));
        }
        Check.due("runs", run > 40, true);
        Check.end();
    }

    private static long call(DrawingHouse house, String name) {
        switch (name) {
            case "feed": return house.feed(a[0], a[1], a[2], a[3], a[4]);
            case "read": return house.read(a[0], a[1]);
            case "fault": return house.fault(a[0]);
            case "count": return house.count(a[0], a[1]);
            case "node": return house.node(a[0], a[1], a[2]);
            case "edge": return house.edge(a[0], a[1], a[2]);
            case "group": return house.group(a[0], a[1], a[2]);
            case "letter": return house.letter(a[0], a[1], a[2], a[3]);
            case "change": return house.change(a[0], a[1], a[2], a[3]);
            case "back": return house.back(a[0], a[1]) ? 1 : 0;
            case "far": return house.far(a[0], a[1], a[2]);
            case "same": return house.same(a[0], a[1]);
            case "map": return house.map(a[0]);
            case "planar": return house.planar(a[0], a[1]);
            case "turn": return house.turn(a[0], a[1], a[2], a[3]);
            default: return callDrawing(house, name);
        }
    }

    private static long callDrawing(DrawingHouse house, String name) {
        switch (name) {
            case "draw": return house.draw(a[0], a[1], a[2]);
            case "at": return house.at(a[0], a[1], a[2], a[3]);
            case "told": return house.told(a[0], a[1], a[2]);
            case "put": return house.put(a[0], a[1], a[2], a[3], a[4]) ? 1 : 0;
            case "route": return house.route(a[0], a[1]);
            case "label": return house.label(a[0], a[1], a[2]);
            case "judge": return house.judge(a[0], a[1]);
            case "style": return house.style(a[0], a[1]);
            case "shade": return house.shade(a[0], a[1], a[2], a[3]);
            case "text": return house.text(a[0], a[1]);
            case "octet": return house.octet(a[0]);
            case "dots": return house.dots(a[0], a[1], a[2]);
            case "dot": return house.dot(a[0], a[1]);
            default: throw new IllegalStateException("no call is named " + name);
        }
    }
}
