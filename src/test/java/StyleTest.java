/** Promises 24 and 25, and 4 for styles: style, shade, fault. */
public final class StyleTest {
    public static void main(String[] args) {
        wordsHaveTheirValues();
        numbersAndTests();
        rulesInOrder();
        faultsHaveTheirPlaces();
        twelveMayBeOpen();
        wrongCalls();
        Check.end();
    }

    /** What a sum over the words of nodes (kind 0) or edges (1) is for each of them. */
    private static String values(DrawingHouse house, int kind, String sum) {
        Check.due("rules", Check.style(house, 0, (kind == 0 ? "node" : "edge") + " if 1=1:width=" + sum + ";"), 1);
        StringBuilder row = new StringBuilder();
        for (int i = 0; house.shade(0, kind, i, 1) != -1; i++) {
            row.append(i == 0 ? "" : " ").append(house.shade(0, kind, i, 1));
        }
        return row.toString();
    }

    private static void wordsHaveTheirValues() {
        // Nodes a b c d e, edges ab bc ca cd.
        DrawingHouse house = Check.house("group g{node a[size=5];}a>b>c>a;c-d[weight=7];node e;");
        String[] node = {
            "deg", "2 2 3 1 0", "in", "1 1 1 1 0", "out", "1 1 2 0 0", "size", "5 1 1 1 1", "group", "1 0 0 0 0",
            "far+1", "1 2 2 3 0", "core", "2 2 2 1 0", "cut", "0 0 1 0 0", "x", "0 0 0 0 0", "y", "0 0 0 0 0",
        };
        for (int k = 0; k < node.length; k += 2) {
            Check.due(node[k], values(house, 0, node[k]), node[k + 1]);
        }
        String[] edge = {
            "weight", "1 1 1 7", "turned", "0 0 1 0", "bridge", "0 0 0 1", "from", "0 1 2 2", "to", "1 2 0 3",
            "block", "0 0 0 1", "long", "0 0 0 0", "one", "1 1 1 0",
        };
        for (int k = 0; k < edge.length; k += 2) {
            Check.due(edge[k], values(house, 1, edge[k]), edge[k + 1]);
        }
        house.draw(0, 7, 0);
        Check.due("x of a drawing", values(house, 0, "x"), "4 0 8 12 16");
        Check.due("y of a drawing", values(house, 0, "y"), "4 0 8 12 16");
        house.put(0, 1, -1, 4, -3);
        Check.due("y below 0", values(house, 0, "10+y"), "14 7 18 22 26");
        Check.due("|dx| + |dy|", values(house, 1, "long"), "7 15 8 8");
    }

    private static void numbersAndTests() {
        DrawingHouse house = Check.house("node a;");
        String[] sums = {
            "2+3*4", "14", "(2+3)*4", "20", "9-2-3", "4", "100/7/2", "7", "7/0", "0", "0-1", "0", "256", "255", "9999", "255",
            "10+(0-7)/2", "6", "10+(0-8)/2", "6", "10+7/(0-2)", "6", "9999*9999*9999*9999*1000", "0",
            "9999*9999*9999*9999/9999/9999/9999-9000", "255", "1+(2*(3+(4)))", "15",
        };
        for (int k = 0; k < sums.length; k += 2) {
            Check.due(sums[k], values(house, 0, sums[k]), sums[k + 1]);
        }
        String[] tests = {
            "1<2", "1", "2<1", "0", "1=1", "1", "1>1", "0", "not 1=1", "0", "not not 1=1", "1", "1=1 and 1=2", "0",
            "1=2 or 1=1", "1", "1=1 or 1=1 and 1=2", "1", "{1=1 or 1=1}and 1=2", "0", "not{1=2}", "1", "not 1=2 and 1=2", "0",
            "(1)+1=2", "1", "1=2 or 1=2 or 2=2", "1", "deg=0 and far=0 and size=1", "1",
        };
        for (int k = 0; k < tests.length; k += 2) {
            Check.due("style", Check.style(house, 0, "node if " + tests[k] + ":form=1;"), 1);
            Check.due(tests[k], house.shade(0, 0, 0, 2), Integer.parseInt(tests[k + 1]));
        }
    }

    private static void rulesInOrder() {
        DrawingHouse house = Check.house("a-b-c;");
        String text = "node if deg>0:color=1,width=2;edge if 1=1:form=3;\nnode if deg=2:color=9 , form = 5,color=10;";
        Check.due("rules", Check.style(house, 0, text), 3);
        int[] want = {1, 2, 0, 10, 2, 5, 1, 2, 0};
        for (int k = 0; k < 9; k++) {
            Check.due("shade of node " + k / 3 + ", " + k % 3, house.shade(0, 0, k / 3, k % 3), want[k]);
        }
        Check.due("form of an edge", house.shade(0, 1, 1, 2), 3);
        Check.due("color of an edge", house.shade(0, 1, 1, 0), 0);
        Check.due("with a fault", Check.style(house, 0, "node if 1=1:color=77;!"), -1);
        Check.due("nothing changes", house.shade(0, 0, 1, 0), 10);
        Check.due("no rules", Check.style(house, 1, " \n"), 0);
        Check.due("another place", house.shade(0, 0, 1, 0), 10);
    }

    private static String faultOf(String text) {
        DrawingHouse house = Check.house("a-b;");
        Check.due("NONE just with a fault: " + text, Check.style(house, 0, text) == -1, house.fault(0) != 0);
        return house.fault(0) + "@" + house.fault(1);
    }

    private static void faultsHaveTheirPlaces() {
        String[] runs = {
            "", "0@-1", "  \n", "0@-1", "node", "1@4", "nodes", "1@0", "if", "1@0", "node 1=1", "1@5", "node if", "1@7",
            "node if :", "1@8", "node if deg", "1@11", "node if deg:", "1@11", "node if weight=1:color=1;", "1@8",
            "edge if deg=1:color=1;", "1@8", "edge if one=1:color=1;", "0@-1", "node if 1=1:deg=1;", "1@12",
            "node if 1=1:color;", "1@17", "node if 1=1:color=;", "1@18", "node if 1=1:color=1", "1@19",
            "node if 1=1:color=1,;", "1@20", "node if 1=1:;", "1@12", "node if 1=1;", "1@11", "node if 1=color:form=1;", "1@10",
            "node if 1=1=1:form=1;", "1@11", "node if (1=1):form=1;", "1@10", "node if {1=1:form=1;", "1@12",
            "node if 1=1}:form=1;", "1@11", "node if not:form=1;", "1@11", "node if 1=1 and:form=1;", "1@15",
            "node if 1=1 or or 1=1:form=1;", "1@15", "node if 12345=1:form=1;", "1@8", "node if 9999=1:form=1;", "0@-1",
            "node if abcdefghi=1:form=1;", "1@8", "node if abcdefgh=1:form=1;", "1@8", "node if X=1:form=1;", "1@8",
            "node if x_=1:form=1;", "1@9", "node if -1=1:form=1;", "1@8", "node if 1+=1:form=1;", "1@10",
            "node if 1=1:form=1;;", "1@19", "node if 1=1:form=1;edge", "1@23", "node if 1=1:form=(1;", "1@19",
            "node if x1=1:form=1;", "1@9", "nodeif 1=1:form=1;", "1@0", "node if1=1:form=1;", "0@-1", "node\tif", "1@4",
        };
        for (int k = 0; k < runs.length; k += 2) {
            Check.due("fault of <" + runs[k] + ">", faultOf(runs[k]), runs[k + 1]);
        }
    }

    private static void twelveMayBeOpen() {
        String twelve = "{not {not {not (((";
        String open = "node if " + twelve.replace(" ", "") + "(((";
        Check.due("12 open", faultOf(open + "1))))))=1}}}:form=1;"), "0@-1");
        Check.due("the 13th", faultOf(open + "(1)))))))=1}}}:form=1;"), "2@" + open.length());
        Check.due("13 times not", faultOf("node if " + "not ".repeat(13) + "1=1:form=1;"), "2@56");
        Check.due("12 times not, one behind the other twice",
                faultOf("node if " + "not ".repeat(12) + "1=1 and " + "not ".repeat(12) + "1=1:form=1;"), "0@-1");
        Check.due("12 times {", faultOf("node if " + "{".repeat(12) + "1=1" + "}".repeat(12) + ":form=1;"), "0@-1");
        Check.due("13 times {", faultOf("node if " + "{".repeat(13) + "1=1" + "}".repeat(13) + ":form=1;"), "2@20");
        Check.due("12 times ( in a sum that is set", faultOf("node if 1=1:form=" + "(".repeat(12) + "1" + ")".repeat(12) + ";"), "0@-1");
        Check.due("13 times ( there", faultOf("node if 1=1:form=" + "(".repeat(13) + "1" + ")".repeat(13) + ";"), "2@29");
    }

    private static void wrongCalls() {
        DrawingHouse house = Check.house("a-b;");
        Check.due("fault of a read", Check.read(house, 1, "a"), -1);
        Check.feed(house, "node if 1=1:form=1;");
        Check.due("place 4", house.style(4, 19), -2);
        Check.due("place -1", house.style(-1, 19), -2);
        Check.due("length -1", house.style(0, -1), -2);
        Check.due("length 21", house.style(0, 21), -2);
        Check.due("greatest", house.style(0, Integer.MAX_VALUE), -2);
        Check.due("that did nothing", house.fault(1), 1);
        Check.due("nor to the tape", house.style(0, 19), 1);
        Check.due("empty then", house.style(0, 1), -2);
        Check.due("no fault", house.fault(0), 0);
        Check.due("no place", house.fault(1), -1);
        int[] wrong = {-1, 3, Integer.MIN_VALUE, Integer.MAX_VALUE};
        for (int w : wrong) {
            Check.due("shade in " + (w == 3 ? 4 : w), house.shade(w == 3 ? 4 : w, 0, 0, 0), -1);
            Check.due("shade of kind " + w, house.shade(0, w, 0, 0), -1);
            Check.due("shade of node " + w, house.shade(0, 0, w, 0), -1);
            Check.due("shade of edge " + w, house.shade(0, 1, w, 0), -1);
            Check.due("shade " + w, house.shade(0, 0, 0, w), -1);
        }
        Check.due("kind 2", house.shade(0, 2, 0, 0), -1);
        Check.due("an empty place", house.shade(2, 0, 0, 0), -1);
        Check.due("a style for one", Check.style(house, 2, "edge if 1=1:color=1;"), 1);
    }
}
