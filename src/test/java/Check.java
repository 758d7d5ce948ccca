/** Counts and prints the answers that are not as due. */
final class Check {
    private static int wrong = 0;
    private static int asked = 0;

    private Check() {
    }

    static void due(String call, long got, long want) {
        asked++;
        if (got != want) {
            wrong++;
            System.out.println(call + " answered " + got + ", due is " + want);
        }
    }

    static void due(String call, boolean got, boolean want) {
        due(call, got ? 1 : 0, want ? 1 : 0);
    }

    static void due(String call, String got, String want) {
        asked++;
        if (!got.equals(want)) {
            wrong++;
            System.out.println(call + " answered <" + got + ">, due is <" + want + ">");
        }
    }

    /** Feeds a text to the tape, padded with bytes 0. */
    static void feed(DrawingHouse house, String text) {
        for (int start = 0; start < text.length(); start += 20) {
            int[] word = new int[5];
            for (int k = 0; k < 20; k++) {
                int c = start + k < text.length() ? text.charAt(start + k) : 0;
                word[k / 4] = word[k / 4] << 8 | c;
            }
            house.feed(word[0], word[1], word[2], word[3], word[4]);
        }
    }

    static int read(DrawingHouse house, int g, String text) {
        feed(house, text);
        return house.read(g, text.length());
    }

    static int style(DrawingHouse house, int g, String text) {
        feed(house, text);
        return house.style(g, text.length());
    }

    static DrawingHouse house(String text) {
        DrawingHouse house = new DrawingHouse();
        read(house, 0, text);
        return house;
    }

    /** A text of so many nodes without edges: a, b, c, .. */
    static String nodes(int count) {
        StringBuilder text = new StringBuilder();
        for (int k = 0; k < count; k++) {
            text.append("node ").append((char) ('a' + k)).append(';');
        }
        return text.toString();
    }

    /** The latest text. */
    static String written(DrawingHouse house) {
        StringBuilder text = new StringBuilder();
        int octet = house.octet(0);
        for (int i = 1; octet != DrawingHouse.NONE; i++) {
            text.append((char) octet);
            octet = house.octet(i);
        }
        return text.toString();
    }

    static String text(DrawingHouse house, int g, int what) {
        due("text(" + g + ", " + what + ") has bytes", house.text(g, what) >= 0, true);
        return written(house);
    }

    static void end() {
        System.out.println(asked + " answers asked for, " + wrong + " not as due");
        if (wrong != 0) {
            System.exit(1);
        }
    }
}
