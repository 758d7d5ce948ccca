import java.io.IOException;
import java.nio.file.Files;
import java.nio.file.Path;
import java.util.List;

/**
 * Drawings with the points that are due, from src/test/resources/drawings.txt: a graph, a way with its
 * number, what the way told, and the drawing's text (with / for byte 10). They were worked out by a plain
 * model of the document, which tries all orders and solves the sums by linear programs. Each is asked of a
 * new object, and of one that has drawn the graph ahead of it in the same place: nothing of that may stay.
 */
public final class RecordedDrawingsTest {
    public static void main(String[] args) throws IOException {
        List<String> lines = Files.readAllLines(Path.of(args.length > 0 ? args[0] : ".", "src/test/resources/drawings.txt"));
        for (int k = 0; k + 3 < lines.size(); k += 4) {
            asked(new DrawingHouse(), lines, k);
            DrawingHouse used = new DrawingHouse();
            int before = (k + lines.size() - 4) % lines.size();
            drawn(used, lines, before);
            asked(used, lines, k);
        }
        Check.due("drawings", lines.size() >= 4 * 100, true);
        Check.end();
    }

    private static String behind(String line, String word) {
        return line.substring(word.length()).trim();
    }

    private static int drawn(DrawingHouse house, List<String> lines, int k) {
        Check.read(house, 0, behind(lines.get(k), "graph"));
        String[] way = behind(lines.get(k + 1), "draw").split(" ");
        return house.draw(0, Integer.parseInt(way[0]), Integer.parseInt(way[1]));
    }

    private static void asked(DrawingHouse house, List<String> lines, int k) {
        String call = lines.get(k + 1) + " of " + lines.get(k);
        Check.due(call, drawn(house, lines, k), 0);
        Check.due("told by " + call, told(house), behind(lines.get(k + 2), "told"));
        Check.due("text of " + call, Check.text(house, 0, 1).replace('\n', '/'), behind(lines.get(k + 3), "text"));
    }

    /** All that the way of a drawing told, by node, edge and group. */
    private static String told(DrawingHouse house) {
        int nodes = house.count(0, 0);
        StringBuilder row = new StringBuilder();
        switch (house.told(0, 0, 0)) {
            case 0:
                add(house, row, 1, 2, 1);
                add(house, row, 3, 3, nodes);
                add(house, row, 4, 4, house.count(0, 1));
                break;
            case 2: add(house, row, 15, 15, nodes); break;
            case 4:
                add(house, row, 6, 9, nodes);
                add(house, row, 10, 13, house.count(0, 2));
                break;
            case 5: add(house, row, 14, 14, 1); break;
            case 7: add(house, row, 5, 5, 1); break;
            default: break;
        }
        return row.toString().trim();
    }

    private static void add(DrawingHouse house, StringBuilder row, int first, int last, int count) {
        for (int i = 0; i < count; i++) {
            for (int what = first; what <= last; what++) {
                row.append(house.told(0, what, i)).append(' ');
            }
        }
    }
}
