import java.util.Random;

/**
 * LANGUAGE.md, rule 7: no call throws or fails to end, for any arguments in any state. Each object gets
 * its 512 calls and some more, with arguments near the bounds, at the ends of int, or that hit what is there.
 */
public final class NeverThrowsTest {
    private static final int[] ODD = {-1, -2, 0, 1, 2, 3, 4, 7, 8, 9, 15, 16, 23, 24, 47, 48, 64, 65, 99, 100, 200, 512,
        1000000, -1000000, 1000001, Integer.MAX_VALUE, Integer.MIN_VALUE, Integer.MAX_VALUE - 1, Integer.MIN_VALUE + 1};
    private static final String[] WORDS = {"node ", "group ", "edge ", "if ", "and ", "or ", "not ", "a", "b", "c", "d1", "e", "f_",
        "longname", "x", "y", "deg", "weight", "size", "color=", "width=", "{", "}", "[", "]", "(", ")", ";", "=", "-", ">", "<", ":",
        ",", "+", "*", "/", "1", "9", "99", "100", "9999", " ", "\n", "[weight=9];", "[size=50];", "-", ">", ";", ";", "\0", "\u00ff"};

    private final Random random;
    private final DrawingHouse house = new DrawingHouse();

    private NeverThrowsTest(long seed) {
        random = new Random(seed);
    }

    public static void main(String[] args) {
        for (long seed = 0; seed < 400; seed++) {
            NeverThrowsTest run = new NeverThrowsTest(seed);
            for (int k = 0; k < 520; k++) {
                run.call(seed, k);
            }
        }
        Check.end();
    }

    private int odd() {
        int k = random.nextInt(10);
        return k < 5 ? random.nextInt(26) : k < 8 ? ODD[random.nextInt(ODD.length)] : k < 9 ? random.nextInt(60) - 20 : random.nextInt();
    }

    private int place() {
        return random.nextInt(20) == 0 ? odd() : random.nextInt(2);
    }

    /** Mostly a text without a fault. */
    private String graph() {
        StringBuilder text = new StringBuilder();
        int nodes = 1 + random.nextInt(25);
        boolean[][] joined = new boolean[25][25];
        int depth = 0;
        for (int k = random.nextInt(60); k > 0; k--) {
            if (random.nextInt(12) == 0) {
                text.append(depth > 0 && random.nextBoolean() ? "}" : "group g{");
                depth += text.charAt(text.length() - 1) == '}' ? -1 : 1;
            }
            int a = random.nextInt(nodes);
            int b = random.nextInt(nodes);
            if ((a == b || joined[a][b]) && random.nextInt(200) > 0) {
                continue;
            }
            joined[a][b] = true;
            joined[b][a] = true;
            text.append((char) ('a' + a)).append(random.nextBoolean() ? '-' : '>').append((char) ('a' + b));
            text.append(random.nextInt(4) == 0 ? "[weight=" + (1 + random.nextInt(9)) + "];" : ";");
        }
        return text + "}".repeat(Math.max(depth, 0));
    }

    private String words() {
        StringBuilder text = new StringBuilder();
        for (int k = random.nextInt(40); k > 0; k--) {
            text.append(WORDS[random.nextInt(WORDS.length)]);
        }
        return text.toString();
    }

    private void call(long seed, int k) {
        // Now and then all of a drawing is asked for, and seldom another graph is read.
        int what = random.nextInt(3) == 0 ? 19 + random.nextInt(11) : random.nextInt(30);
        what = what == 1 && random.nextInt(4) > 0 ? 23 : what;
        try {
            if (what < 15) {
                askOrChange(what);
            } else {
                drawOrWrite(what);
            }
            Check.due("", 0, 0);
        } catch (RuntimeException | StackOverflowError thrown) {
            Check.due("seed " + seed + ", call " + k + " of kind " + what + ": " + thrown + " at " + thrown.getStackTrace()[0], 1, 0);
        }
    }

    private void askOrChange(int what) {
        switch (what) {
            case 0: house.feed(random.nextInt(), odd(), random.nextInt(), odd(), odd()); break;
            case 1:
                // The tape is emptied ahead, so that it is this text that is read.
                house.read(3, 0);
                Check.read(house, place(), graph());
                break;
            case 2:
                Check.feed(house, words());
                house.read(place(), random.nextInt(80));
                break;
            case 3:
                Check.feed(house, "node if " + words());
                house.style(place(), random.nextInt(80));
                break;
            case 4: house.fault(odd()); break;
            case 5: house.count(place(), odd()); break;
            case 6: house.node(place(), odd(), odd()); break;
            case 7: house.edge(place(), odd(), odd()); break;
            case 8: house.group(place(), odd(), odd()); break;
            case 9: house.letter(place(), odd(), odd(), odd()); break;
            case 10:
            case 11:
                for (int i = 0; i < 3; i++) {
                    house.change(place(), random.nextInt(3), odd(), odd());
                }
                break;
            case 12: house.change(place(), odd(), odd(), odd()); break;
            case 13: house.back(place(), odd()); break;
            default: house.far(place(), odd(), odd()); break;
        }
    }

    private void drawOrWrite(int what) {
        switch (what) {
            case 15: house.same(place(), place()); break;
            case 16: house.map(odd()); break;
            case 17: house.planar(place(), odd()); break;
            case 18: house.turn(place(), odd(), odd(), odd()); break;
            case 19:
            case 20: house.draw(place(), random.nextInt(8), odd()); break;
            case 21: house.at(place(), odd(), odd(), odd()); break;
            case 22: house.told(place(), odd(), odd()); break;
            case 23: house.put(place(), odd(), random.nextBoolean() ? -1 : odd(), odd() % 100, odd() % 50); break;
            case 24: house.route(place(), odd()); break;
            case 25: house.label(place(), odd(), odd()); break;
            case 26: house.judge(place(), odd()); break;
            case 27: house.shade(place(), odd(), odd(), odd()); break;
            case 28:
                house.text(place(), odd());
                house.octet(odd());
                break;
            default:
                house.dots(place(), odd(), odd());
                house.dot(odd(), odd());
                break;
        }
    }
}
