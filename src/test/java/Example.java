/** The example of README.md: it reads a graph, draws it, asks about the drawing and writes it out. */
public final class Example {
    public static void main(String[] args) {
        DrawingHouse house = new DrawingHouse();

        // Read: a text goes onto the tape, and from there into place 0.
        String graph = "node start [size=5]; start>a>b>start; a-c[weight=3]; group g { c-d; }";
        feed(house, graph);
        if (house.read(0, graph.length()) == DrawingHouse.NONE) {
            System.out.println("fault " + house.fault(0) + " behind " + house.fault(1) + " bytes");
            return;
        }
        System.out.println(house.count(0, 0) + " nodes, " + house.count(0, 1) + " edges, " + house.count(0, 4) + " blocks");

        // Draw: in layers. Below 0 would be the reason why not.
        if (house.draw(0, 0, 0) != 0) {
            return;
        }

        // Ask: the way what it told, the drawing where its points are, the judge what crosses.
        System.out.println("edge b > start turned: " + house.told(0, 4, 2));
        System.out.println("c is at " + house.at(0, 0, 3, 0) + ", " + house.at(0, 1, 3, 0));
        System.out.println("crossings: " + house.judge(0, 0) + ", bends: " + house.judge(0, 4));

        // Write out: the drawing as a text, then, in colors of a style, as dots.
        int bytes = house.text(0, 1);
        for (int i = 0; i < bytes; i++) {
            System.out.print((char) house.octet(i));
        }
        String style = "node if size > 1 or cut = 1: color = 200;";
        feed(house, style);
        house.style(0, style.length());
        house.dots(0, 16, 7);
        for (int y = 0; y < 7; y++) {
            for (int x = 0; x < 16; x++) {
                int dot = house.dot(x, y);
                System.out.print(dot == 0 ? '.' : dot < 128 ? '+' : dot == 128 ? 'o' : '@');
            }
            System.out.println();
        }
    }

    /** Puts a text onto the tape, twenty bytes a call; what is too many at its end is not read. */
    private static void feed(DrawingHouse house, String text) {
        for (int start = 0; start < text.length(); start += 20) {
            int[] four = new int[5];
            for (int k = 0; k < 20; k++) {
                int octet = start + k < text.length() ? text.charAt(start + k) : 32;
                four[k / 4] = four[k / 4] << 8 | octet;
            }
            house.feed(four[0], four[1], four[2], four[3], four[4]);
        }
    }
}
