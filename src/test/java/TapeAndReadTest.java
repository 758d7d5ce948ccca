/** Promises 2 to 4: feed, read, fault. */
public final class TapeAndReadTest {
    public static void main(String[] args) {
        feedCountsBytes();
        readTakesThePlaceAndEmptiesTheTape();
        faultsHaveTheirPlaces();
        boundsOfATextAreKept();
        faultsOfGroups();
        Check.end();
    }

    private static void feedCountsBytes() {
        DrawingHouse house = new DrawingHouse();
        for (int k = 1; k <= 100; k++) {
            Check.due("feed " + k, house.feed(k, 0, -1, Integer.MIN_VALUE, Integer.MAX_VALUE), 20 * k);
        }
        Check.due("feed beyond 2000", house.feed(0, 0, 0, 0, 0), -1);
        Check.due("more than there are", house.read(0, 2001), -2);
        Check.due("all of it", house.read(0, 2000), -1);
        Check.due("fault at the first byte", house.fault(1), 0);
        Check.due("empty then", house.feed(0, 0, 0, 0, 0), 20);
        // The highest byte of a number comes first: "ab-c" and ";" behind it.
        DrawingHouse order = new DrawingHouse();
        order.feed(0x61622d63, 0x3b000000, 0, 0, 0);
        Check.due("highest byte first", order.read(2, 5), 2);
        Check.due("name of node 0", order.letter(2, 0, 0, 1), 'b');
    }

    private static void readTakesThePlaceAndEmptiesTheTape() {
        DrawingHouse house = new DrawingHouse();
        Check.feed(house, "a-b;c-d;");
        Check.due("place -1", house.read(-1, 4), -2);
        Check.due("place 4", house.read(4, 4), -2);
        Check.due("length -1", house.read(0, -1), -2);
        Check.due("length 21", house.read(0, 21), -2);
        Check.due("least", house.read(0, Integer.MIN_VALUE), -2);
        Check.due("greatest", house.read(Integer.MAX_VALUE, Integer.MAX_VALUE), -2);
        Check.due("none of these counts as a read", house.fault(0), -1);
        Check.due("the first bytes alone", house.read(3, 4), 2);
        Check.due("the rest is gone", house.read(3, 1), -2);
        Check.due("edges", house.count(3, 1), 1);
        Check.due("with a fault", Check.read(house, 3, "x-y-z;$"), -1);
        Check.due("the graph stays", house.count(3, 0), 2);
        Check.due("its tape is gone, too", house.read(3, 1), -2);
        Check.due("no bytes, no nodes", house.read(3, 0), 0);
        Check.due("nodes", house.count(3, 0), 0);
        Check.due("other places", house.count(0, 0), 0);
    }

    /** What a text's fault is and where, as "fault@place". */
    private static String faultOf(String text) {
        DrawingHouse house = new DrawingHouse();
        int nodes = Check.read(house, 1, text);
        Check.due("NONE just with a fault: " + text, nodes == -1, house.fault(0) != 0);
        Check.due("no other fault than 0 and 1", house.fault(2), -1);
        return house.fault(0) + "@" + house.fault(1);
    }

    private static void faultsHaveTheirPlaces() {
        String[] runs = {
            "", "0@-1", " \n ", "0@-1", "a", "1@1", "a;", "1@1", "a-", "1@2", "a-b", "1@3", "a-b ", "1@4",
            "node a;node b", "1@13", "node;", "1@4", "node node;", "1@5", "node group;", "1@5", "group {}", "1@6",
            "a-node;", "1@2", "a-b->c;", "1@4", "a - b > c-d;", "0@-1", "-a;", "1@0", "}", "1@0", "group g{", "1@8",
            "group g{}}", "1@9", "group g;", "1@7", "a-b$;", "1@3", "_a-b;", "1@0", "a1_Z9-b;", "0@-1", "1a-b;", "1@0",
            "abcdefgh-b;", "0@-1", "abcdefghi-b;", "1@0", "a-abcdefghi;", "1@2",
            "a-a;", "2@2", "a-b;b-a;", "2@6", "a-b-a;", "2@4", "a-b;a>b$", "2@6",
            "node a[size=1];", "0@-1", "node a[size=99];", "0@-1", "node a[size=0];", "5@12", "node a[size=100];", "5@12",
            "node a[size=007];", "0@-1", "node a[size=0007];", "1@12", "node a[size=];", "1@12", "node a[size=b];", "1@12",
            "node a[size 5];", "1@12", "node a[];", "1@7", "node a[weight=5];", "4@7", "node a[node=5];", "4@7",
            "node a[size=5 size=5];", "4@14", "node a[size=5 5];", "1@14", "node a[size=5;", "1@13", "node a[5];", "1@7",
            "a-b[weight=9];", "0@-1", "a-b[weight=0];", "5@11", "a-b[weight=10];", "5@11", "a-b[size=1];", "4@4",
            "a-b[weight=3weight=4];", "4@12", "a-b[toolongword=1];", "1@4", "a-b[weight=1]", "1@13", "a[size=1];", "1@1",
            "node a-b;", "1@6", "size-weight;", "0@-1", "Node-Group;", "0@-1", "a-b;\t", "1@4", "a-b;\0", "1@4",
            "a-b;\u00ff", "1@4",
        };
        for (int k = 0; k < runs.length; k += 2) {
            Check.due("fault of <" + runs[k] + ">", faultOf(runs[k]), runs[k + 1]);
        }
    }

    private static void boundsOfATextAreKept() {
        StringBuilder nodes = new StringBuilder();
        for (int k = 0; k < 24; k++) {
            nodes.append("node v").append((char) ('a' + k)).append(';');
        }
        Check.due("24 nodes", faultOf(nodes.toString()), "0@-1");
        Check.due("the 25th", faultOf(nodes + "node vz;"), "3@" + (nodes.length() + 5));
        Check.due("the 25th ahead of an edge", faultOf(nodes + "vz-va;"), "3@" + nodes.length());
        Check.due("the 25th at an edge", faultOf(nodes + "va-vz;"), "3@" + (nodes.length() + 3));
        StringBuilder edges = new StringBuilder();
        int count = 0;
        for (char a = 'b'; count < 48; a++) {
            for (char b = 'a'; b < a && count < 48; b++, count++) {
                edges.append(a).append('-').append(b).append(';');
            }
        }
        Check.due("48 edges", faultOf(edges.toString()), "0@-1");
        Check.due("the 49th", faultOf(edges + "y-z;"), "3@" + (edges.length() + 2));
        Check.due("one that is there, ahead of that", faultOf(edges + "a-b;"), "2@" + (edges.length() + 2));
        Check.due("one to itself, ahead of that", faultOf(edges + "a-a;"), "2@" + (edges.length() + 2));
    }

    private static void faultsOfGroups() {
        StringBuilder groups = new StringBuilder();
        for (int k = 0; k < 7; k++) {
            groups.append("group g{}");
        }
        Check.due("seven groups besides group 0", faultOf(groups.toString()), "0@-1");
        Check.due("the 8th", faultOf(groups + "group g{}"), "3@63");
        String four = "group a{group b{group c{group d{";
        Check.due("four within each other", faultOf(four + "}}}}"), "0@-1");
        Check.due("the fifth", faultOf(four + "group e{}}}}}"), "3@32");
    }
}
