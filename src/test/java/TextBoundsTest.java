/**
 * The bounds of a graph's text and of the tape (PART 1, promises 1 to 4): for each sentence the last that
 * is still taken and the first that is refused, with the fault and its place.
 */
public final class TextBoundsTest {
    private static final String FINE = "0@-1";

    public static void main(String[] args) {
        fourPlaces();
        theTapeHas2000Bytes();
        theTapeIsEmptyThen();
        highestBytesComeFirst();
        faultsAreOfTheLatest();
        namesHaveOneToEightBytes();
        namesBeginWithALetter();
        nodeAndGroupAreNoNames();
        betweenTokensAreBytes32And10();
        numbersHaveOneToThreeDigits();
        sizesAreOneTo99();
        weightsAreOneTo9();
        wordsStandOnce();
        theEndOfEachBeginning();
        twoNodesHaveOneEdge();
        thereAre24Nodes();
        thereAre48Edges();
        oneItemMayHave48Edges();
        thereAre8Groups();
        fourGroupsLieWithinEachOther();
        theFirstFaultFromTheLeft();
        aTextMayHaveNoNodes();
        bytesBehindTheFirstAreNotLookedAt();
        Check.end();
    }

    /** A text's fault and place as "fault@place". */
    private static String faultOf(String text) {
        DrawingHouse house = new DrawingHouse();
        int nodes = Check.read(house, 0, text);
        Check.due("NONE just with a fault: " + text, nodes == -1, house.fault(0) != 0);
        return house.fault(0) + "@" + house.fault(1);
    }

    private static void fault(String text, String want) {
        Check.due("fault of <" + text + ">", faultOf(text), want);
    }

    private static String nodes(int count) {
        StringBuilder text = new StringBuilder();
        for (int k = 0; k < count; k++) {
            text.append("node v").append((char) ('a' + k)).append(';');
        }
        return text.toString();
    }

    /** Edges between the first of 24 names, as many as wanted; 11 names have 55 pairs. */
    private static String edges(int count) {
        StringBuilder text = new StringBuilder();
        int made = 0;
        for (char a = 'b'; made < count; a++) {
            for (char b = 'a'; b < a && made < count; b++, made++) {
                text.append('v').append(a).append(">v").append(b).append(';');
            }
        }
        return text.toString();
    }

    private static void fourPlaces() {
        DrawingHouse house = new DrawingHouse();
        for (int g = 0; g < 4; g++) {
            for (int what = 0; what < 8; what++) {
                Check.due("place " + g + " at first, " + what, house.count(g, what), what == 2 ? 1 : 0);
            }
            Check.due("group 0 alone", house.group(g, 1, 1), -1);
            Check.due("read into " + g, Check.read(house, g, nodes(g + 1)), g + 1);
        }
        for (int g = 0; g < 4; g++) {
            Check.due("each has its own", house.count(g, 0), g + 1);
        }
        Check.feed(house, "a-b;");
        Check.due("place -1", house.read(-1, 4), -2);
        Check.due("place 4", house.read(4, 4), -2);
        Check.due("the tape is still there", house.read(0, 4), 2);
    }

    private static void theTapeHas2000Bytes() {
        DrawingHouse house = new DrawingHouse();
        for (int k = 1; k <= 100; k++) {
            Check.due("feed " + k, house.feed(0x20202020, 0x20202020, 0x20202020, 0x20202020, 0x20202020), 20 * k);
        }
        Check.due("feed 101", house.feed(0, 0, 0, 0, 0), -1);
        Check.due("feed 102", house.feed(0, 0, 0, 0, 0), -1);
        Check.due("2,001 bytes", house.read(0, 2001), -2);
        Check.due("2,000 bytes, all blank", house.read(0, 2000), 0);
        DrawingHouse full = new DrawingHouse();
        Check.feed(full, " ".repeat(1996) + "a-b;");
        Check.due("the last bytes are read, too", full.read(0, 2000), 2);
        Check.feed(full, " ".repeat(1999) + "a");
        Check.due("a fault at the end of a full tape", full.read(0, 2000), -1);
        Check.due("its place", full.fault(1), 2000);
    }

    private static void theTapeIsEmptyThen() {
        DrawingHouse house = new DrawingHouse();
        Check.due("no bytes at first", house.read(0, 1), -2);
        Check.due("none is more than none", house.read(0, 0), 0);
        Check.feed(house, "a-b;c-d;");
        Check.due("one more than there are", house.read(0, 21), -2);
        Check.due("below 0", house.read(0, -1), -2);
        Check.due("the first four", house.read(0, 4), 2);
        Check.due("behind a text", house.read(0, 1), -2);
        Check.due("a feed begins anew", house.feed(0, 0, 0, 0, 0), 20);
        Check.due("a fault", house.read(0, 20), -1);
        Check.due("behind a fault", house.read(0, 1), -2);
        Check.feed(house, "a-b;");
        Check.due("no bytes of it", house.read(0, 0), 0);
        Check.due("behind those", house.read(0, 1), -2);
    }

    private static void highestBytesComeFirst() {
        DrawingHouse house = new DrawingHouse();
        house.feed(0x61626364, 0x65666768, 0x2d695f39, 0x5b776569, 0x6768743d);
        house.feed(0x393b0000, 0, 0, 0, 0);
        Check.due("a number without its ]", house.read(0, 22), -1);
        Check.due("place", house.fault(1), 21);
        house.feed(0x41424344, 0x45464748, 0x2d695f39, 0x3b000000, -1);
        Check.due("two names", house.read(0, 13), 2);
        for (int k = 0; k < 8; k++) {
            Check.due("letter " + k, house.letter(0, 0, 0, k), 'A' + k);
        }
        house.feed(0xff2d623b, 0x80000000, 0x7fffffff, -1, 0);
        Check.due("a byte above 127", house.read(0, 4), -1);
        Check.due("is met where it stands", house.fault(1), 0);
    }

    private static void faultsAreOfTheLatest() {
        DrawingHouse house = new DrawingHouse();
        Check.due("none was read", house.fault(0), -1);
        Check.due("no place", house.fault(1), -1);
        Check.due("a refused one", house.read(0, 1), -2);
        Check.due("is none", house.fault(0), -1);
        Check.read(house, 0, "a-b;a-b;");
        Check.due("fault", house.fault(0), 2);
        Check.due("place", house.fault(1), 6);
        house.read(9, 0);
        house.style(9, 0);
        house.read(0, 1);
        house.style(0, -1);
        Check.due("refused ones leave it", house.fault(0) * 10 + house.fault(1), 26);
        house.style(0, 0);
        Check.due("a style without one", house.fault(0), 0);
        Check.due("has no place", house.fault(1), -1);
        Check.style(house, 0, "edge if deg");
        Check.due("a style's", house.fault(0) * 10 + house.fault(1), 18);
        Check.read(house, 3, "a-b;");
        Check.due("a text without one", house.fault(0), 0);
        for (int what : new int[] {-1, 2, Integer.MIN_VALUE, Integer.MAX_VALUE}) {
            Check.due("fault " + what, house.fault(what), -1);
        }
    }

    private static void namesHaveOneToEightBytes() {
        for (int length = 1; length <= 12; length++) {
            String name = "x" + "_9Zab0Aqwert".substring(0, length - 1);
            boolean fits = length <= 8;
            fault(name + "-b;", fits ? FINE : "1@0");
            fault("b > " + name + ";", fits ? FINE : "1@4");
            fault("node " + name + ";", fits ? FINE : "1@5");
            fault("group " + name + " {}", fits ? FINE : "1@6");
            fault("a-b[" + name + "=1];", fits ? "4@4" : "1@4");
        }
        DrawingHouse house = Check.house("abcdefgh-abcdefg;group A_______{}");
        Check.due("names that differ in their last byte", house.count(0, 0), 2);
        Check.due("bytes of a name", house.node(0, 0, 0), 8);
        Check.due("bytes of a group's name", house.group(0, 1, 1), 8);
        Check.due("its last byte", house.letter(0, 1, 1, 7), '_');
        Check.due("no ninth byte", house.letter(0, 1, 1, 8), -1);
    }

    private static void namesBeginWithALetter() {
        for (int c = 0; c < 256; c++) {
            boolean letter = c >= 'a' && c <= 'z' || c >= 'A' && c <= 'Z';
            boolean blank = c == 32 || c == 10;
            String first = letter ? FINE : blank ? "1@1" : "1@0";
            fault((char) c + "-bb;", first);
            boolean later = letter || c >= '0' && c <= '9' || c == '_';
            String second = later || blank ? FINE : c == '-' || c == '>' ? "1@2" : "1@1";
            fault("a" + (char) c + "-bb;", second);
        }
    }

    private static void nodeAndGroupAreNoNames() {
        for (String word : new String[] {"node", "group"}) {
            fault("node " + word + ";", "1@5");
            fault("group " + word + "{}", "1@6");
            fault(word + "-a;", "1@" + word.length());
            fault("a-" + word + ";", "1@2");
            fault("a-b>" + word + ";", "1@4");
            fault(word + "s-a;", FINE);
            fault(word.substring(1) + "-a;", FINE);
            fault(word.toUpperCase() + "-a;", FINE);
        }
        // Words of other texts are names here.
        fault("size-weight;if>edge;node color;group size{}", FINE);
    }

    private static void betweenTokensAreBytes32And10() {
        fault("a-b>c[weight=3];node d[size=4];group g{}", FINE);
        fault(" a - b > c [ weight = 3 ] ; node d [ size = 4 ] ; group g { } ", FINE);
        fault("\na\n-\nb\n>\nc\n[\nweight\n=\n3\n]\n;\nnode\nd\n;\ngroup\ng\n{\n}\n", FINE);
        for (int c : new int[] {0, 9, 11, 12, 13, 31, 33, 127, 128, 160, 255}) {
            fault("a" + (char) c + "-b;", "1@1");
            fault("a-b;" + (char) c, "1@4");
        }
        // Tokens that end by themselves need no blank; words do.
        fault("nodea;", "1@5");
        fault("node a[size=5size=6];", "4@13");
        fault("node a[size=5]node b;", "1@14");
    }

    private static void numbersHaveOneToThreeDigits() {
        String[] runs = {
            "9", FINE, "09", FINE, "009", FINE, "0009", "1@12", "99", FINE, "099", FINE, "0099", "1@12", "1000", "1@12",
            "0000000000000000001", "1@12", "99999999999999999999", "1@12", "000", "5@12", "", "1@12", "-1", "1@12", "a", "1@12",
        };
        for (int k = 0; k < runs.length; k += 2) {
            fault("node a[size=" + runs[k] + "];", runs[k + 1]);
        }
        Check.due("zeros ahead", Check.house("node a[size=007];").node(0, 0, 1), 7);
    }

    private static void sizesAreOneTo99() {
        for (int size = 0; size <= 999; size += size < 101 ? 1 : 299) {
            fault("node a[size=" + size + "];", size >= 1 && size <= 99 ? FINE : "5@12");
        }
        Check.due("the least", Check.house("node a[size=1];").node(0, 0, 1), 1);
        Check.due("the greatest", Check.house("node a[size=99];").node(0, 0, 1), 99);
        Check.due("1 when none is told", Check.house("node a;").node(0, 0, 1), 1);
        Check.due("1 for a name at an edge", Check.house("a-b;").node(0, 1, 1), 1);
        Check.due("a node told twice keeps its size", Check.house("node a[size=5];node a;").node(0, 0, 1), 5);
        Check.due("or gets another one", Check.house("a-b;node a[size=5];node a[size=6];").node(0, 0, 1), 6);
    }

    private static void weightsAreOneTo9() {
        for (int weight = 0; weight <= 999; weight += weight < 101 ? 1 : 299) {
            fault("a-b[weight=" + weight + "];", weight >= 1 && weight <= 9 ? FINE : "5@11");
        }
        Check.due("the greatest", Check.house("a-b[weight=9];").edge(0, 0, 2), 9);
        Check.due("1 when none is told", Check.house("a-b;").edge(0, 0, 2), 1);
        DrawingHouse house = Check.house("a-b;b>c-d[weight=4];d-e;");
        int[] want = {1, 4, 4, 1};
        for (int e = 0; e < 4; e++) {
            Check.due("all edges of the item, no others: " + e, house.edge(0, e, 2), want[e]);
        }
    }

    private static void wordsStandOnce() {
        fault("node a[size=1 size=1];", "4@14");
        fault("a-b[weight=1 weight=1];", "4@13");
        fault("node a[weight=1];", "4@7");
        fault("a-b[size=1];", "4@4");
        fault("a-b[weight=1 size=1];", "4@13");
        fault("node a[Size=1];", "4@7");
        fault("node a[size];", "1@11");
        fault("node a[size=1,];", "1@13");
        fault("node a[];", "1@7");
        fault("node a[=1];", "1@7");
        fault("node a[1=1];", "1@7");
        fault("node a[size=1][size=1];", "1@14");
        // Another word is met ahead of what is wrong behind it, a number ahead of a word that stands twice.
        fault("node a[siz", "4@7");
        fault("node a[size=0 size=1];", "5@12");
    }

    /** No beginning of a text goes on at its end, but those that are texts themselves. */
    private static void theEndOfEachBeginning() {
        String text = "group g { node a [ size = 12 ] ; b - c > d [ weight = 3 ] ; } e - f ;\n";
        int close = text.indexOf('}') + 1;
        int size = text.indexOf("size");
        int weight = text.indexOf("weight");
        for (int n = 0; n <= text.length(); n++) {
            String want = n == 0 || n == close || n == close + 1 || n >= text.length() - 1 ? FINE : "1@" + n;
            // The beginning of a word is another word.
            want = n > size && n < size + 4 ? "4@" + size : n > weight && n < weight + 6 ? "4@" + weight : want;
            fault(text.substring(0, n), want);
        }
        fault("a - b ; } ", "1@8");
        fault("group g { } }", "1@12");
        fault("group g { } ;", "1@12");
        fault(";", "1@0");
        fault("a;", "1@1");
        fault("a-b;-c;", "1@4");
    }

    private static void twoNodesHaveOneEdge() {
        fault("a-a;", "2@2");
        fault("a > a ;", "2@4");
        fault("a-b-b;", "2@4");
        fault("a-b;a-b;", "2@6");
        fault("a-b;b-a;", "2@6");
        fault("a-b;a>b;", "2@6");
        fault("a>b;b>a;", "2@6");
        fault("a-b-a;", "2@4");
        fault("a-b-c-a;", FINE);
        fault("a-b-c-a-b;", "2@8");
        // A name is met whole: bb is another one than b.
        fault("a-b;a-bb;", FINE);
        fault("a-b;a-b$", "2@6");
    }

    private static void thereAre24Nodes() {
        String full = nodes(24);
        fault(full, FINE);
        fault(full + "node va;", FINE);
        fault(full + "va-vx;", FINE);
        fault(full + "node vy;", "3@" + (full.length() + 5));
        fault(full + "vy-va;", "3@" + full.length());
        fault(full + "va-vy;", "3@" + (full.length() + 3));
        fault(full + "va-vx>vy;", "3@" + (full.length() + 6));
        fault(full + "group vy{}", FINE);
        // It is met ahead of what stands behind it.
        fault(full + "vy", "3@" + full.length());
        fault(full + "node vy$", "3@" + (full.length() + 5));
        DrawingHouse house = Check.house(full);
        Check.due("24 nodes", house.count(0, 0), 24);
        Check.due("the last one", house.letter(0, 0, 23, 1), 'x');
        Check.due("no other", house.node(0, 24, 0), -1);
        Check.due("the 25th leaves the graph", Check.read(house, 0, full + "node vy;"), -1);
        Check.due("as it was", house.count(0, 0), 24);
    }

    private static void thereAre48Edges() {
        String full = edges(48);
        fault(full, FINE);
        int length = full.length();
        fault(full + "vk-vz;", "3@" + (length + 3));
        fault(full + "vx-vy;", "3@" + (length + 3));
        // An edge that is there already, or to itself, is met ahead of there being too many.
        fault(full + "va-vb;", "2@" + (length + 3));
        fault(full + "va-va;", "2@" + (length + 3));
        fault(nodes(24) + full + "va-vy;", "3@" + (nodes(24).length() + length + 3));
        fault(edges(47) + "vw-vx-vy;", "3@" + (edges(47).length() + 6));
        DrawingHouse house = Check.house(full);
        Check.due("48 edges", house.count(0, 1), 48);
        Check.due("the last one", house.edge(0, 47, 3), 1);
        Check.due("no other", house.edge(0, 48, 3), -1);
    }

    /** Rings over 11 nodes by steps of 1, 2, 3, 4, 5 go along 55 edges, none of them twice: 49 names have 48. */
    private static String chain(int names) {
        StringBuilder text = new StringBuilder();
        int at = 0;
        for (int k = 0; k < names; k++) {
            text.append(k == 0 ? "v" : k % 2 == 0 ? ">v" : "-v").append((char) ('a' + at));
            at = (at + 1 + k / 11) % 11;
        }
        return text.toString();
    }

    private static void oneItemMayHave48Edges() {
        String full = chain(49);
        fault(full + ";", FINE);
        fault(full + "[weight=9];", FINE);
        fault(chain(50) + ";", "3@" + (chain(50).length() - 2));
        fault(chain(51) + ";", "3@" + (chain(50).length() - 2));
        fault(chain(50), "3@" + (chain(50).length() - 2));
        fault(full + "-vz;", "3@" + (full.length() + 1));
        // What is there already, and what does not go on, are told ahead of there being too many.
        String last = full.substring(full.length() - 2);
        fault(full + "-" + last + ";", "2@" + (full.length() + 1));
        fault(full + "-;", "1@" + (full.length() + 1));
        fault(full + ">>", "1@" + (full.length() + 1));
        fault(full + "[weight=0];", "5@" + (full.length() + 8));
        fault(full, "1@" + full.length());
        DrawingHouse house = Check.house(full + "[weight=9];");
        Check.due("edges of one item", house.count(0, 1), 48);
        Check.due("its first edge's weight", house.edge(0, 0, 2), 9);
        Check.due("its last edge's weight", house.edge(0, 47, 2), 9);
        Check.due("every other one is one-way", house.edge(0, 46, 3) * 10 + house.edge(0, 47, 3), 1);
    }

    private static void thereAre8Groups() {
        String seven = "group g{}".repeat(7);
        fault(seven, FINE);
        fault(seven + "group g{}", "3@63");
        fault(seven + " group", "3@64");
        fault("group a{group b{}group c{}}".repeat(2) + "group d{}", FINE);
        fault("group a{group b{}group c{}}".repeat(2) + "group d{group", "3@62");
        DrawingHouse house = Check.house(seven + "node a;");
        Check.due("8 with group 0", house.count(0, 2), 8);
        Check.due("the last one lies in", house.group(0, 7, 0), 0);
        Check.due("no other", house.group(0, 8, 0), -1);
        Check.due("group 0 is always there", Check.house("").count(0, 2), 1);
    }

    private static void fourGroupsLieWithinEachOther() {
        String four = "group a{group b{group c{group d{";
        fault(four + "}}}}", FINE);
        fault(four + "}}}group e{group f{group g{}}}}", FINE);
        fault(four + "}}group e{group f{group g{}}}}}", "3@50");
        fault(four + "}}}}group e{group f{group g{}}}", FINE);
        fault(four + "group e{}}}}}", "3@32");
        fault(four + "}group e{}}}}", FINE);
        fault(four + " group", "3@33");
        DrawingHouse house = Check.house(four + "node x;}}}}");
        for (int i = 1; i < 5; i++) {
            Check.due("group " + i + " lies in", house.group(0, i, 0), i - 1);
        }
        Check.due("the innermost one's node", house.node(0, 0, 2), 4);
    }

    private static void theFirstFaultFromTheLeft() {
        fault("a-a;node b[size=0];", "2@2");
        fault("node b[size=0];a-a;", "5@12");
        fault("node b[weight=0];a-a;", "4@7");
        fault("$a-a;", "1@0");
        fault("a-b[weight=0", "5@11");
        fault("a-b[weight=10000];a-a;", "1@11");
        fault("toolongname-a;a-a;", "1@0");
        fault(nodes(24) + "vy-vy;", "3@" + nodes(24).length());
    }

    private static void aTextMayHaveNoNodes() {
        DrawingHouse house = Check.house("a-b;group g{c-d;}");
        house.change(0, 0, 0, 0);
        house.draw(0, 7, 0);
        Check.due("nodes", Check.read(house, 0, " \n"), 0);
        for (int what = 0; what < 8; what++) {
            Check.due("count " + what, house.count(0, what), what == 2 ? 1 : 0);
        }
        Check.due("no group 1", house.group(0, 1, 0), -1);
        Check.due("no drawing", house.told(0, 0, 0), -1);
        Check.due("nothing to take back", house.back(0, 0), false);
        Check.due("a group without nodes", Check.read(house, 0, "group g{}"), 0);
        Check.due("is there", house.count(0, 2), 2);
    }

    /** The first n bytes alone: a token that would go on behind them ends there. */
    private static void bytesBehindTheFirstAreNotLookedAt() {
        cut("node a[size=99", "9];", "1@14");
        cut("node a[size=1", "00];", "1@13");
        cut("node a[size=100", "0];", "5@12");
        cut("a-bcdefghi", "j;", "1@10");
        cut("abcdefgh", "i-b;", "1@8");
        cut("node", "s-a;", "1@4");
        cut("a-b;", "$", FINE);
        cut("a-b;a", "-b;", "1@5");
        cut("group g{}", "}", FINE);
        cut("node a[size", "d=1];", "1@11");
        cut(" ", "x", FINE);
    }

    private static void cut(String text, String rest, String want) {
        DrawingHouse house = new DrawingHouse();
        Check.feed(house, text + rest);
        house.read(0, text.length());
        Check.due("<" + text + "> ahead of <" + rest + ">", house.fault(0) + "@" + house.fault(1), want);
    }
}
