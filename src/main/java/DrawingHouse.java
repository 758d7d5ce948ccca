import java.util.Arrays;

/**
 * A house of graph drawing, as its document tells it: four places for graphs, their structure,
 * their drawings, and what goes out of them. Sets of nodes are held as bits of an int throughout:
 * a graph has at most 24 nodes, and one more where the outer-planar test needs it.
 */
public final class DrawingHouse {
    /** There is none. */
    public static final int NONE = -1;

    private static final int PLACES = 4;
    private static final int MAX_NODES = 24;
    private static final int MAX_EDGES = 48;
    private static final int MAX_GROUPS = 8;
    private static final int MAX_DEPTH = 4;
    private static final int MAX_NAME = 8;
    private static final int MAX_SIZE = 99;
    private static final int MAX_WEIGHT = 9;
    private static final int MAX_CHANGES = 30;
    /** Numbers of a packed state: two counts, three for each node, one for each edge. */
    private static final int STATE = 2 + 3 * MAX_NODES + MAX_EDGES;
    private static final int MAX_TAPE = 2000;
    private static final int FED = 20;
    private static final int MAX_TEXT = 4000;
    private static final int MAX_STEPS = 20000;
    /** Each step of the search for a map is followed by at most one way back. */
    private static final int MAX_SEARCH = 3 * MAX_STEPS;
    private static final int MAX_BENDS = 24;
    private static final int MAX_POINT = 1000000;
    private static final int NO_POINT = Integer.MIN_VALUE;
    private static final int MAX_SIDE = 64;
    private static final int REFUSED = -2;
    /** Far above what any run needs: the bound of loops for which the document tells none. */
    private static final int MILLION = 1000000;

    /** Strong parts up to this many nodes are put in the best order of all. */
    private static final int SMALL_LOOP = 7;

    /** The outer-planar test adds a node that is joined to all others. */
    private static final int NET_NODES = MAX_NODES + 1;
    private static final int NET_EDGES = MAX_EDGES + MAX_NODES;
    /** A planar net of 25 nodes has at most 46 faces. */
    private static final int MAX_CYCLES = 2 * NET_NODES;

    private static final int MAX_ITEMS = 72;
    /** Each edge has one piece more than it has joints. */
    private static final int MAX_PIECES = MAX_EDGES + MAX_ITEMS;
    /** Each piece and each gap has an arc there and one back. */
    private static final int MAX_ARCS = 2 * (MAX_PIECES + MAX_ITEMS);
    private static final int NO_LIMIT = 1000000000;
    private static final int SWEEPS = 10;
    /** Layers up to this many items are put in the best order of all. */
    private static final int SMALL_LAYER = 6;
    private static final int ORDERS = 720;
    /** All orders of 1 to 6 items: 1 + 2 + 6 + 24 + 120 + 720. */
    private static final int ALL_ORDERS = 873;
    private static final int[] ORDER_COUNTS = {1, 1, 2, 6, 24, 120, 720};
    private static final int[] ORDER_STARTS = {0, 0, 1, 3, 9, 33, 153};

    private static final int SMALL_RING = 8;
    private static final int TREE_GAP = 4;
    private static final int MAX_FORCE_STEPS = 200;
    private static final int MIN_AREA = 8;
    private static final int MAX_AREA = 512;

    private static final int MAX_GRID = 6000;
    private static final int GRID_STATES = 4 * MAX_GRID;
    /** A state gets at most one cost by a turn and one straight on, the goal's four one each. */
    private static final int MAX_ENTRIES = 2 * GRID_STATES + 4;
    private static final int NO_WAY = -4;
    private static final int TOO_MANY_BENDS = -3;
    private static final int TOO_FEW_NODES = -3;

    /** Kinds of tokens; a sign is its own byte. */
    private static final int END = 0;
    private static final int BAD = 1;
    private static final int WORD = 2;
    private static final int NUMBER = 3;

    private static final String SIGNS = ":=,;{}<>+-*/()";
    private static final String NODE_WORDS = "deg in out size group far core cut x y ";
    private static final String EDGE_WORDS = "weight turned bridge from to block long one ";
    private static final int MAX_WORDS = 10;
    private static final int MAX_OPEN = 12;
    /** The shortest rule has 18 bytes. */
    private static final int MAX_RULES = 112;
    /** Each byte of a style makes one step at most, and each rule one more. */
    private static final int MAX_CODE = MAX_TAPE + MAX_RULES;
    /** Each of 13 levels waits with at most five numbers. */
    private static final int MAX_STACK = 80;
    /** Steps of a compiled style. */
    private static final int PUSH = 0;
    private static final int LOAD = 1;
    private static final int ADD = 2;
    private static final int SUBTRACT = 3;
    private static final int MULTIPLY = 4;
    private static final int DIVIDE = 5;
    private static final int LESS = 6;
    private static final int EQUAL = 7;
    private static final int MORE = 8;
    private static final int AND = 9;
    private static final int OR = 10;
    private static final int NOT = 11;
    private static final int UNLESS = 12;
    private static final int SET = 13;

    private final Graph[] graphs = new Graph[PLACES];
    private final Facts[] facts = new Facts[PLACES];
    private final Net[] nets = new Net[PLACES];
    private final Drawing[] drawings = new Drawing[PLACES];
    private final Reader reader = new Reader();
    private final Embedder embedder = new Embedder();
    private final int[] became = new int[MAX_NODES];
    private int becameNodes = 0;
    private int steps = NONE;
    private byte[] written = new byte[MAX_TEXT];
    private byte[] spare = new byte[MAX_TEXT];
    private int writtenLength = 0;
    private int spareLength = 0;
    private final int[] plane = new int[MAX_SIDE * MAX_SIDE];
    private int planeWidth = 0;
    private int planeHeight = 0;
    // The larger tools are made when they are first needed: many objects never need them.
    private Styler styler = null;
    private Layers layers = null;
    private PlanarWays planarWays = null;
    private PlainWays plainWays = null;
    private Router router = null;

    public DrawingHouse() {
        for (int g = 0; g < PLACES; g++) {
            graphs[g] = new Graph();
            facts[g] = new Facts();
            nets[g] = new Net();
            drawings[g] = new Drawing(graphs[g]);
        }
    }

    public int feed(int a, int b, int c, int d, int e) {
        if (reader.length + FED > MAX_TAPE) {
            return NONE;
        }
        reader.append(a);
        reader.append(b);
        reader.append(c);
        reader.append(d);
        reader.append(e);
        return reader.length;
    }

    public int read(int g, int n) {
        if (!isPlace(g) || n < 0 || n > reader.length) {
            return REFUSED;
        }
        boolean good = reader.readGraph(n);
        reader.length = 0;
        if (!good) {
            return NONE;
        }
        graphs[g].copyFrom(reader.graph);
        forget(g);
        return graphs[g].nodes;
    }

    public int fault(int what) {
        if (what == 0) {
            return reader.fault;
        }
        return what == 1 ? reader.faultPlace : NONE;
    }

    public int count(int g, int what) {
        if (!isPlace(g)) {
            return NONE;
        }
        switch (what) {
            case 0: return graphs[g].nodes;
            case 1: return graphs[g].edges;
            case 2: return graphs[g].groups;
            case 3: return learned(g).parts;
            case 4: return learned(g).blocks;
            case 5: return learned(g).strongs;
            case 6: return graphs[g].done;
            case 7: return graphs[g].undone;
            default: return NONE;
        }
    }

    public int node(int g, int i, int what) {
        if (!isPlace(g) || !graphs[g].hasNode(i)) {
            return NONE;
        }
        switch (what) {
            case 0: return graphs[g].nameLength[i];
            case 1: return graphs[g].size[i];
            case 2: return graphs[g].groupOf[i];
            case 3: return Integer.bitCount(graphs[g].near[i]);
            case 4: return learned(g).part[i];
            case 5: return learned(g).blocksAt[i];
            case 6: return learned(g).strong[i];
            case 7: return learned(g).core[i];
            default: return NONE;
        }
    }

    public int edge(int g, int e, int what) {
        if (!isPlace(g) || !graphs[g].hasEdge(e)) {
            return NONE;
        }
        switch (what) {
            case 0: return graphs[g].tail[e];
            case 1: return graphs[g].head[e];
            case 2: return graphs[g].weight[e];
            case 3: return graphs[g].oneWay[e];
            case 4: return learned(g).block[e];
            case 5: return learned(g).isBridge(e) ? 1 : 0;
            default: return NONE;
        }
    }

    public int group(int g, int i, int what) {
        if (!isPlace(g) || !graphs[g].hasGroup(i)) {
            return NONE;
        }
        switch (what) {
            case 0: return graphs[g].within[i];
            case 1: return graphs[g].groupNameLength[i];
            case 2: return graphs[g].sizeOfGroup(i);
            default: return NONE;
        }
    }

    public int letter(int g, int kind, int i, int k) {
        if (!isPlace(g) || k < 0) {
            return NONE;
        }
        Graph graph = graphs[g];
        if (kind == 0 && graph.hasNode(i) && k < graph.nameLength[i]) {
            return graph.name[i * MAX_NAME + k];
        }
        if (kind == 1 && graph.hasGroup(i) && k < graph.groupNameLength[i]) {
            return graph.groupName[i * MAX_NAME + k];
        }
        return NONE;
    }

    public int change(int g, int what, int a, int b) {
        if (!isPlace(g) || !graphs[g].mayAlter(what, a, b)) {
            return NONE;
        }
        int answer = graphs[g].alter(what, a, b);
        forget(g);
        return answer;
    }

    public boolean back(int g, int redo) {
        if (!isPlace(g) || !graphs[g].step(redo)) {
            return false;
        }
        forget(g);
        return true;
    }

    public int far(int g, int a, int b) {
        if (!isPlace(g) || !graphs[g].hasNode(a) || !graphs[g].hasNode(b)) {
            return NONE;
        }
        return graphs[g].distance(a, b);
    }

    public int same(int g, int f) {
        if (!isPlace(g) || !isPlace(f)) {
            return NONE;
        }
        steps = 0;
        Graph first = graphs[g];
        Graph second = graphs[f];
        if (first.nodes != second.nodes || first.edges != second.edges) {
            return 0;
        }
        int[] trial = new int[MAX_NODES];
        int answer = searchMap(first, second, trial);
        if (answer == 1) {
            becameNodes = first.nodes;
            System.arraycopy(trial, 0, became, 0, first.nodes);
        }
        return answer;
    }

    public int map(int i) {
        if (i == NONE) {
            return steps;
        }
        return i >= 0 && i < becameNodes ? became[i] : NONE;
    }

    public int planar(int g, int what) {
        if (!isPlace(g)) {
            return NONE;
        }
        Net net = embedded(g);
        switch (what) {
            case 0: return net.planar;
            case 1: return embedder.outer(graphs[g], net);
            case 2: return net.planar == 1 ? net.faces : NONE;
            case 3: return net.planar == 1 ? NONE : net.kind;
            case 4: return net.planar == 1 ? NONE : net.barredEdges;
            default: return NONE;
        }
    }

    public int turn(int g, int what, int i, int k) {
        if (!isPlace(g) || i < 0) {
            return NONE;
        }
        Net net = embedded(g);
        if (what == 2) {
            return net.planar == 0 && i < net.barredEdges ? net.barred[i] : NONE;
        }
        if (net.planar == 0 || k < 0) {
            return NONE;
        }
        if (what == 0) {
            return net.edgeAround(i, k);
        }
        return what == 1 ? net.nodeOfFace(i, k) : NONE;
    }

    public int draw(int g, int way, int a) {
        if (!isPlace(g) || way < 0 || way > 7 || graphs[g].nodes == 0) {
            return NONE;
        }
        int answer;
        if (way == 0) {
            if (layers == null) {
                layers = new Layers();
            }
            answer = layers.lay(graphs[g], learned(g), drawings[g]);
        } else if (way <= 2) {
            if (planarWays == null) {
                planarWays = new PlanarWays();
            }
            answer = planarWays.lay(way, graphs[g], learned(g), embedded(g), drawings[g]);
        } else {
            if (plainWays == null) {
                plainWays = new PlainWays();
            }
            answer = plainWays.lay(way, a, graphs[g], learned(g), drawings[g]);
        }
        if (answer == 0) {
            drawings[g].way = way;
        }
        return answer;
    }

    public int at(int g, int what, int i, int k) {
        return isPlace(g) ? drawings[g].coordinate(what, i, k) : NO_POINT;
    }

    public int told(int g, int what, int i) {
        return isPlace(g) ? drawings[g].report(what, i) : NONE;
    }

    public boolean put(int g, int i, int k, int x, int y) {
        return isPlace(g) && drawings[g].move(i, k, x, y);
    }

    public int route(int g, int e) {
        if (!hasDrawing(g) || !graphs[g].hasEdge(e)) {
            return NONE;
        }
        if (router == null) {
            router = new Router();
        }
        return router.lead(graphs[g], drawings[g], e);
    }

    public int label(int g, int e, int what) {
        if (!hasDrawing(g) || !graphs[g].hasEdge(e) || what < 0 || what > 1) {
            return NO_POINT;
        }
        return drawings[g].labelOf(e, what);
    }

    public long judge(int g, int rule) {
        return hasDrawing(g) ? drawings[g].verdict(rule) : NONE;
    }

    public int style(int g, int n) {
        if (!isPlace(g) || n < 0 || n > reader.length) {
            return REFUSED;
        }
        if (styler == null) {
            styler = new Styler();
        }
        boolean good = styler.compile(reader.tape, n);
        reader.length = 0;
        reader.fault = styler.fault;
        reader.faultPlace = styler.faultPlace;
        if (!good) {
            return NONE;
        }
        styler.apply(graphs[g], learned(g), drawings[g]);
        return styler.rules;
    }

    public int shade(int g, int kind, int i, int what) {
        if (!isPlace(g) || what < 0 || what > 2) {
            return NONE;
        }
        if (kind == 0 && graphs[g].hasNode(i)) {
            return drawings[g].shades[3 * i + what];
        }
        if (kind == 1 && graphs[g].hasEdge(i)) {
            return drawings[g].shades[3 * (MAX_NODES + i) + what];
        }
        return NONE;
    }

    public int text(int g, int what) {
        if (!isPlace(g) || what < 0 || what > 1 || (what == 1 && !hasDrawing(g))) {
            return NONE;
        }
        spareLength = 0;
        if (what == 0) {
            writeGroup(graphs[g], 0, 0);
            writeEdges(graphs[g]);
        } else {
            writeDrawing(graphs[g], drawings[g]);
        }
        if (spareLength > MAX_TEXT) {
            return NONE;
        }
        byte[] old = written;
        written = spare;
        spare = old;
        writtenLength = spareLength;
        return writtenLength;
    }

    public int octet(int i) {
        return i >= 0 && i < writtenLength ? written[i] : NONE;
    }

    public int dots(int g, int w, int h) {
        if (!hasDrawing(g) || w < 1 || w > MAX_SIDE || h < 1 || h > MAX_SIDE) {
            return NONE;
        }
        planeWidth = w;
        planeHeight = h;
        Arrays.fill(plane, 0);
        Drawing drawing = drawings[g];
        drawing.measure();
        for (int e = 0; e < graphs[g].edges; e++) {
            int value = 1 + drawing.shades[3 * (MAX_NODES + e)];
            for (int k = 0; k <= drawing.bends[e]; k++) {
                drawLine(drawing, e, k, value);
            }
        }
        for (int i = 0; i < graphs[g].nodes; i++) {
            int value = 128 + drawing.shades[3 * i] / 2;
            setDot(drawing.scaledX(drawing.x[i], w), drawing.scaledY(drawing.y[i], h), value);
        }
        int lit = 0;
        for (int k = 0; k < w * h; k++) {
            if (plane[k] != 0) {
                lit++;
            }
        }
        return lit;
    }

    public int dot(int x, int y) {
        if (x < 0 || x >= planeWidth || y < 0 || y >= planeHeight) {
            return NONE;
        }
        return plane[y * planeWidth + x];
    }

    private static boolean isPlace(int g) {
        return g >= 0 && g < PLACES;
    }

    private boolean hasDrawing(int g) {
        return isPlace(g) && drawings[g].way != NONE;
    }

    /** A changed graph has no drawing and no shades, and nothing that was known of it holds. */
    private void forget(int g) {
        facts[g].known = false;
        nets[g].forget();
        drawings[g].wipe();
    }

    private Facts learned(int g) {
        if (!facts[g].known) {
            facts[g].learn(graphs[g]);
        }
        return facts[g];
    }

    private Net embedded(int g) {
        Net net = nets[g];
        if (net.planar == NONE) {
            net.load(graphs[g]);
            net.planar = embedder.embed(net) ? 1 : 0;
            if (net.planar == 0) {
                embedder.bar(graphs[g], net);
            }
        }
        return net;
    }

    /** Goes through the tries without recursion: trial holds what each node is tried as. */
    private int searchMap(Graph first, Graph second, int[] trial) {
        int nodes = first.nodes;
        int taken = 0;
        int depth = 0;
        Arrays.fill(trial, NONE);
        for (int k = 0; k < MAX_SEARCH && depth >= 0 && depth < nodes; k++) {
            if (trial[depth] != NONE) {
                taken &= ~(1 << trial[depth]);
            }
            int next = trial[depth] + 1;
            for (; next < nodes && (taken >> next & 1) != 0; next++) {
            }
            if (next >= nodes) {
                trial[depth] = NONE;
                depth--;
                continue;
            }
            if (steps >= MAX_STEPS) {
                return REFUSED;
            }
            steps++;
            trial[depth] = next;
            if (mayBecome(first, second, trial, depth)) {
                taken |= 1 << next;
                depth++;
            }
        }
        return depth == nodes ? 1 : 0;
    }

    private static boolean mayBecome(Graph first, Graph second, int[] trial, int i) {
        int other = trial[i];
        if (Integer.bitCount(first.near[i]) != Integer.bitCount(second.near[other])) {
            return false;
        }
        for (int j = 0; j < i; j++) {
            if (first.relation(i, j) != second.relation(other, trial[j])) {
                return false;
            }
        }
        return true;
    }

    private void writeByte(int value) {
        if (spareLength < MAX_TEXT) {
            spare[spareLength] = (byte) value;
        }
        spareLength++;
    }

    private void writeWord(String word) {
        for (int k = 0; k < word.length(); k++) {
            writeByte(word.charAt(k));
        }
    }

    /** A coordinate is the greatest number that is written: it has at most seven digits. */
    private void writeNumber(int value) {
        if (value < 0) {
            writeByte('-');
        }
        int rest = Math.abs(value);
        boolean begun = false;
        int unit = 1000000;
        for (int k = 0; k < 7; k++) {
            int digit = rest / unit % 10;
            begun = begun || digit > 0 || k == 6;
            if (begun) {
                writeByte('0' + digit);
            }
            unit = Math.max(unit / 10, 1);
        }
    }

    private void writeName(byte[] names, int i, int length) {
        for (int k = 0; k < length; k++) {
            writeByte(names[i * MAX_NAME + k]);
        }
    }

    /** Groups lie at most four deep in group 0, so the depth stays low. */
    private void writeGroup(Graph graph, int group, int depth) {
        for (int i = 0; i < graph.nodes; i++) {
            if (graph.groupOf[i] == group) {
                writeWord("node ");
                writeName(graph.name, i, graph.nameLength[i]);
                if (graph.size[i] > 1) {
                    writeWord(" [size=");
                    writeNumber(graph.size[i]);
                    writeByte(']');
                }
                writeWord(";\n");
            }
        }
        for (int k = group + 1; k < graph.groups; k++) {
            if (graph.within[k] == group && depth <= MAX_DEPTH) {
                writeWord("group ");
                writeName(graph.groupName, k, graph.groupNameLength[k]);
                writeWord(" {\n");
                writeGroup(graph, k, depth + 1);
                writeWord("}\n");
            }
        }
    }

    private void writeEdges(Graph graph) {
        for (int e = 0; e < graph.edges; e++) {
            writeName(graph.name, graph.tail[e], graph.nameLength[graph.tail[e]]);
            writeWord(graph.oneWay[e] == 1 ? " > " : " - ");
            writeName(graph.name, graph.head[e], graph.nameLength[graph.head[e]]);
            if (graph.weight[e] > 1) {
                writeWord(" [weight=");
                writeNumber(graph.weight[e]);
                writeByte(']');
            }
            writeWord(";\n");
        }
    }

    private void writeDrawing(Graph graph, Drawing drawing) {
        for (int i = 0; i < graph.nodes; i++) {
            writeName(graph.name, i, graph.nameLength[i]);
            writePoint(drawing.x[i], drawing.y[i]);
            writeByte('\n');
        }
        for (int e = 0; e < graph.edges; e++) {
            writeNumber(graph.tail[e]);
            writeByte(' ');
            writeNumber(graph.head[e]);
            for (int k = 1; k <= drawing.bends[e]; k++) {
                writePoint(drawing.pointX(e, k), drawing.pointY(e, k));
            }
            writeByte('\n');
        }
    }

    private void writePoint(int x, int y) {
        writeByte(' ');
        writeNumber(x);
        writeByte(' ');
        writeNumber(y);
    }

    private void setDot(int x, int y, int value) {
        if (x >= 0 && x < planeWidth && y >= 0 && y < planeHeight) {
            plane[y * planeWidth + x] = value;
        }
    }

    private void drawLine(Drawing drawing, int e, int piece, int value) {
        int a = drawing.scaledX(drawing.pointX(e, piece), planeWidth);
        int b = drawing.scaledY(drawing.pointY(e, piece), planeHeight);
        int c = drawing.scaledX(drawing.pointX(e, piece + 1), planeWidth);
        int d = drawing.scaledY(drawing.pointY(e, piece + 1), planeHeight);
        int n = Math.max(Math.abs(c - a), Math.abs(d - b));
        if (n == 0) {
            setDot(a, b, value);
            return;
        }
        for (int k = 0; k <= n; k++) {
            int x = a + Math.floorDiv(2 * k * (c - a) + n, 2 * n);
            int y = b + Math.floorDiv(2 * k * (d - b) + n, 2 * n);
            setDot(x, y, value);
        }
    }

    /** A graph with its numbers as the document gives them, and the changes that can be taken back. */
    private static final class Graph {
        int nodes = 0;
        int edges = 0;
        int groups = 1;
        final byte[] name = new byte[MAX_NODES * MAX_NAME];
        final int[] nameLength = new int[MAX_NODES];
        final int[] size = new int[MAX_NODES];
        final int[] groupOf = new int[MAX_NODES];
        final int[] tail = new int[MAX_EDGES];
        final int[] head = new int[MAX_EDGES];
        final int[] weight = new int[MAX_EDGES];
        final int[] oneWay = new int[MAX_EDGES];
        final int[] within = new int[MAX_GROUPS];
        final byte[] groupName = new byte[MAX_GROUPS * MAX_NAME];
        final int[] groupNameLength = new int[MAX_GROUPS];
        final int[] near = new int[MAX_NODES];
        /** The edge between two nodes, whichever way. */
        final int[] link = new int[MAX_NODES * MAX_NODES];
        /** Packed states, row by row: the current one has row 'done'. */
        private int[] past = null;
        int done = 0;
        int undone = 0;

        Graph() {
            within[0] = NONE;
            Arrays.fill(link, NONE);
        }

        void clear() {
            nodes = 0;
            edges = 0;
            groups = 1;
            done = 0;
            undone = 0;
            Arrays.fill(near, 0);
            Arrays.fill(link, NONE);
        }

        void copyFrom(Graph other) {
            nodes = other.nodes;
            edges = other.edges;
            groups = other.groups;
            done = 0;
            undone = 0;
            System.arraycopy(other.name, 0, name, 0, name.length);
            System.arraycopy(other.nameLength, 0, nameLength, 0, MAX_NODES);
            System.arraycopy(other.size, 0, size, 0, MAX_NODES);
            System.arraycopy(other.groupOf, 0, groupOf, 0, MAX_NODES);
            System.arraycopy(other.tail, 0, tail, 0, MAX_EDGES);
            System.arraycopy(other.head, 0, head, 0, MAX_EDGES);
            System.arraycopy(other.weight, 0, weight, 0, MAX_EDGES);
            System.arraycopy(other.oneWay, 0, oneWay, 0, MAX_EDGES);
            System.arraycopy(other.within, 0, within, 0, MAX_GROUPS);
            System.arraycopy(other.groupName, 0, groupName, 0, groupName.length);
            System.arraycopy(other.groupNameLength, 0, groupNameLength, 0, MAX_GROUPS);
            relink();
        }

        boolean hasNode(int i) {
            return i >= 0 && i < nodes;
        }

        boolean hasEdge(int e) {
            return e >= 0 && e < edges;
        }

        boolean hasGroup(int i) {
            return i >= 0 && i < groups;
        }

        int edgeBetween(int a, int b) {
            return link[a * MAX_NODES + b];
        }

        /** How wide half of a node's box is. */
        int half(int i) {
            return nameLength[i] + 1;
        }

        /** Which way two nodes are joined: 0 not, 1 both ways, 2 from a to b alone, 3 from b to a. */
        int relation(int a, int b) {
            int e = edgeBetween(a, b);
            if (e == NONE) {
                return 0;
            }
            if (oneWay[e] == 0) {
                return 1;
            }
            return tail[e] == a ? 2 : 3;
        }

        int sizeOfGroup(int group) {
            int sum = 0;
            for (int i = 0; i < nodes; i++) {
                int g = groupOf[i];
                for (int k = 0; k < MAX_GROUPS && g > group; k++) {
                    g = within[g];
                }
                if (g == group) {
                    sum += size[i];
                }
            }
            return sum;
        }

        int distance(int a, int b) {
            int found = 1 << a;
            for (int k = 0; k < nodes; k++) {
                if ((found >> b & 1) != 0) {
                    return k;
                }
                found |= Facts.nearOf(near, nodes, found);
            }
            return NONE;
        }

        int findNode(byte[] letters, int start, int length) {
            for (int i = 0; i < nodes; i++) {
                if (nameLength[i] == length && hasLetters(i, letters, start)) {
                    return i;
                }
            }
            return NONE;
        }

        private boolean hasLetters(int i, byte[] letters, int start) {
            for (int k = 0; k < nameLength[i]; k++) {
                if (name[i * MAX_NAME + k] != letters[start + k]) {
                    return false;
                }
            }
            return true;
        }

        /** The caller has looked for room. */
        int addNode(byte[] letters, int start, int length, int group) {
            int i = nodes;
            System.arraycopy(letters, start, name, i * MAX_NAME, length);
            nameLength[i] = length;
            size[i] = 1;
            groupOf[i] = group;
            near[i] = 0;
            nodes++;
            return i;
        }

        /** The caller has looked for room, and that the two are not joined yet. */
        int addEdge(int a, int b, int way) {
            int e = edges;
            tail[e] = a;
            head[e] = b;
            weight[e] = 1;
            oneWay[e] = way;
            edges++;
            tie(e);
            return e;
        }

        private void tie(int e) {
            link[tail[e] * MAX_NODES + head[e]] = e;
            link[head[e] * MAX_NODES + tail[e]] = e;
            near[tail[e]] |= 1 << head[e];
            near[head[e]] |= 1 << tail[e];
        }

        private void relink() {
            Arrays.fill(near, 0);
            Arrays.fill(link, NONE);
            for (int e = 0; e < edges; e++) {
                tie(e);
            }
        }

        /** Whether a change by hand can be made. */
        boolean mayAlter(int what, int a, int b) {
            switch (what) {
                case 0: return hasGroup(a) && nodes < MAX_NODES && !hasNextName();
                case 1: return hasNode(a) && hasNode(b) && a != b && edges < MAX_EDGES && edgeBetween(a, b) == NONE;
                case 2: return hasEdge(a);
                case 3: return hasNode(a);
                case 4: return hasNode(a) && b >= 1 && b <= MAX_SIZE;
                case 5: return hasEdge(a) && b >= 1 && b <= MAX_WEIGHT;
                case 6: return hasNode(a) && hasGroup(b);
                case 7: return hasEdge(a) && (b == 0 || b == 1);
                default: return false;
            }
        }

        /** The name that a new node gets, n and its number; answers its length. */
        private int nextName(byte[] letters) {
            letters[0] = 'n';
            if (nodes < 10) {
                letters[1] = (byte) ('0' + nodes);
                return 2;
            }
            letters[1] = (byte) ('0' + nodes / 10);
            letters[2] = (byte) ('0' + nodes % 10);
            return 3;
        }

        private boolean hasNextName() {
            byte[] letters = new byte[3];
            int length = nextName(letters);
            return findNode(letters, 0, length) != NONE;
        }

        /** A change that may be made is made, and kept among those that can be taken back. */
        int alter(int what, int a, int b) {
            if (past == null) {
                past = new int[(MAX_CHANGES + 1) * STATE];
            }
            pack(done);
            int answer = perform(what, a, b);
            if (done == MAX_CHANGES) {
                System.arraycopy(past, STATE, past, 0, MAX_CHANGES * STATE);
            } else {
                done++;
            }
            undone = 0;
            pack(done);
            return answer;
        }

        private int perform(int what, int a, int b) {
            switch (what) {
                case 0:
                    byte[] letters = new byte[3];
                    int length = nextName(letters);
                    return addNode(letters, 0, length, a);
                case 1: return addEdge(a, b, 0);
                case 2:
                    removeEdge(a);
                    relink();
                    break;
                case 3: removeNode(a); break;
                case 4: size[a] = b; break;
                case 5: weight[a] = b; break;
                case 6: groupOf[a] = b; break;
                default: oneWay[a] = b; break;
            }
            return 0;
        }

        private void removeEdge(int e) {
            int rest = edges - e - 1;
            System.arraycopy(tail, e + 1, tail, e, rest);
            System.arraycopy(head, e + 1, head, e, rest);
            System.arraycopy(weight, e + 1, weight, e, rest);
            System.arraycopy(oneWay, e + 1, oneWay, e, rest);
            edges--;
        }

        private void removeNode(int i) {
            for (int e = edges - 1; e >= 0; e--) {
                if (tail[e] == i || head[e] == i) {
                    removeEdge(e);
                }
            }
            for (int e = 0; e < edges; e++) {
                tail[e] -= tail[e] > i ? 1 : 0;
                head[e] -= head[e] > i ? 1 : 0;
            }
            int rest = nodes - i - 1;
            System.arraycopy(name, (i + 1) * MAX_NAME, name, i * MAX_NAME, rest * MAX_NAME);
            System.arraycopy(nameLength, i + 1, nameLength, i, rest);
            System.arraycopy(size, i + 1, size, i, rest);
            System.arraycopy(groupOf, i + 1, groupOf, i, rest);
            nodes--;
            relink();
        }

        /** Takes the latest change back (redo 0), or does the latest one taken back again (1). */
        boolean step(int redo) {
            if (past == null) {
                return false;
            }
            if (redo == 0 && done > 0) {
                done--;
                undone++;
            } else if (redo == 1 && undone > 0) {
                done++;
                undone--;
            } else {
                return false;
            }
            unpack(done);
            return true;
        }

        private void pack(int row) {
            int k = row * STATE;
            past[k] = nodes;
            past[k + 1] = edges;
            k += 2;
            for (int i = 0; i < nodes; i++) {
                past[k] = fourLetters(i * MAX_NAME);
                past[k + 1] = fourLetters(i * MAX_NAME + 4);
                past[k + 2] = nameLength[i] | size[i] << 8 | groupOf[i] << 16;
                k += 3;
            }
            k = row * STATE + 2 + 3 * MAX_NODES;
            for (int e = 0; e < edges; e++) {
                past[k + e] = tail[e] | head[e] << 8 | weight[e] << 16 | oneWay[e] << 24;
            }
        }

        private void unpack(int row) {
            int k = row * STATE;
            nodes = past[k];
            edges = past[k + 1];
            k += 2;
            for (int i = 0; i < nodes; i++) {
                setLetters(i * MAX_NAME, past[k]);
                setLetters(i * MAX_NAME + 4, past[k + 1]);
                nameLength[i] = past[k + 2] & 255;
                size[i] = past[k + 2] >> 8 & 255;
                groupOf[i] = past[k + 2] >> 16;
                k += 3;
            }
            k = row * STATE + 2 + 3 * MAX_NODES;
            for (int e = 0; e < edges; e++) {
                tail[e] = past[k + e] & 255;
                head[e] = past[k + e] >> 8 & 255;
                weight[e] = past[k + e] >> 16 & 255;
                oneWay[e] = past[k + e] >> 24;
            }
            relink();
        }

        private int fourLetters(int k) {
            return name[k] | name[k + 1] << 8 | name[k + 2] << 16 | name[k + 3] << 24;
        }

        private void setLetters(int k, int packed) {
            name[k] = (byte) (packed & 127);
            name[k + 1] = (byte) (packed >> 8 & 127);
            name[k + 2] = (byte) (packed >> 16 & 127);
            name[k + 3] = (byte) (packed >> 24 & 127);
        }
    }

    /** What a graph is made of: parts, blocks, strong parts, cores, and the edges that layers turn. */
    private static final class Facts {
        boolean known = false;
        int parts = 0;
        int blocks = 0;
        int strongs = 0;
        final int[] part = new int[MAX_NODES];
        final int[] block = new int[MAX_EDGES];
        final int[] strong = new int[MAX_NODES];
        final int[] core = new int[MAX_NODES];
        final int[] blocksAt = new int[MAX_NODES];
        final boolean[] turned = new boolean[MAX_EDGES];
        private final int[] reach = new int[MAX_NODES];
        private final int[] loop = new int[MAX_NODES];
        private final int[] rank = new int[MAX_NODES];
        private final int[] member = new int[MAX_NODES];
        private final int[] least = new int[1 << SMALL_LOOP];

        void learn(Graph graph) {
            known = true;
            learnParts(graph);
            blocks = blocksOf(graph.nodes, graph.edges, graph.tail, graph.head, graph.near, block);
            learnBlocksAt(graph);
            learnStrong(graph);
            learnCore(graph);
            learnTurned(graph);
        }

        /** The nodes of a set and all that are joined to it, over nodes that are allowed. */
        static int spread(int[] near, int nodes, int start, int allowed) {
            int found = start & allowed;
            int fresh = found;
            for (int k = 0; k < nodes && fresh != 0; k++) {
                fresh = nearOf(near, nodes, fresh) & allowed & ~found;
                found |= fresh;
            }
            return found;
        }

        static int nearOf(int[] near, int nodes, int set) {
            int found = 0;
            for (int v = 0; v < nodes; v++) {
                if ((set >> v & 1) != 0) {
                    found |= near[v];
                }
            }
            return found;
        }

        /** The least node of a set that has one. */
        static int lowest(int set) {
            return Integer.bitCount((set & -set) - 1);
        }

        /**
         * The way from a node to one of the ends over at least one free node and no others, with the
         * fewest edges, of several that with the first row of nodes: how many nodes it has, or 0.
         * (level k: the nodes with k edges to the nearest end.)
         */
        static int shortestWay(int[] near, int nodes, int start, int ends, int free, int[] level, int[] way) {
            level[0] = ends;
            int open = free;
            int top = 0;
            for (int k = 1; k < nodes && top == 0; k++) {
                level[k] = nearOf(near, nodes, level[k - 1]) & open;
                open &= ~level[k];
                if (level[k] == 0) {
                    return 0;
                }
                if ((near[start] & level[k]) != 0) {
                    top = k;
                }
            }
            if (top == 0) {
                return 0;
            }
            way[0] = start;
            for (int k = top; k >= 0; k--) {
                way[top - k + 1] = lowest(near[way[top - k]] & level[k]);
            }
            return top + 2;
        }

        /**
         * Numbers the blocks of a graph or net by their least edges. Two edges at a node are in one
         * block just when their other ends hang together without that node.
         */
        static int blocksOf(int nodes, int edges, int[] tail, int[] head, int[] near, int[] block) {
            for (int e = 0; e < edges; e++) {
                block[e] = e;
            }
            int all = (1 << nodes) - 1;
            for (int v = 0; v < nodes; v++) {
                int left = near[v];
                for (int w = 0; w < nodes; w++) {
                    if ((left >> w & 1) != 0) {
                        int side = spread(near, nodes, 1 << w, all & ~(1 << v));
                        left &= ~side;
                        uniteAt(v, side, edges, tail, head, block);
                    }
                }
            }
            int count = 0;
            for (int e = 0; e < edges; e++) {
                if (block[e] == e) {
                    block[e] = count;
                    count++;
                } else {
                    block[e] = block[block[e]];
                }
            }
            return count;
        }

        private static void uniteAt(int v, int side, int edges, int[] tail, int[] head, int[] block) {
            int kept = NONE;
            for (int e = 0; e < edges; e++) {
                boolean out = tail[e] == v && (side >> head[e] & 1) != 0;
                boolean in = head[e] == v && (side >> tail[e] & 1) != 0;
                if (!out && !in) {
                    continue;
                }
                if (kept == NONE) {
                    kept = block[e];
                } else if (block[e] != kept) {
                    int gone = Math.max(kept, block[e]);
                    kept = Math.min(kept, block[e]);
                    relabel(block, edges, gone, kept);
                }
            }
        }

        private static void relabel(int[] block, int edges, int gone, int kept) {
            for (int e = 0; e < edges; e++) {
                if (block[e] == gone) {
                    block[e] = kept;
                }
            }
        }

        boolean isBridge(int e) {
            for (int f = 0; f < MAX_EDGES; f++) {
                if (f != e && block[f] == block[e]) {
                    return false;
                }
            }
            return true;
        }

        private void learnParts(Graph graph) {
            parts = 0;
            int seen = 0;
            for (int i = 0; i < graph.nodes; i++) {
                if ((seen >> i & 1) == 0) {
                    int set = spread(graph.near, graph.nodes, 1 << i, ~0);
                    seen |= set;
                    setAll(part, graph.nodes, set, parts);
                    parts++;
                }
            }
        }

        private static void setAll(int[] row, int nodes, int set, int value) {
            for (int v = 0; v < nodes; v++) {
                if ((set >> v & 1) != 0) {
                    row[v] = value;
                }
            }
        }

        private void learnBlocksAt(Graph graph) {
            // Edges that are not there must not look like another edge of a block.
            for (int e = graph.edges; e < MAX_EDGES; e++) {
                block[e] = NONE;
            }
            for (int v = 0; v < graph.nodes; v++) {
                long met = 0;
                for (int e = 0; e < graph.edges; e++) {
                    if (graph.tail[e] == v || graph.head[e] == v) {
                        met |= 1L << block[e];
                    }
                }
                blocksAt[v] = Long.bitCount(met);
            }
        }

        private void learnStrong(Graph graph) {
            Arrays.fill(reach, 0);
            for (int e = 0; e < graph.edges; e++) {
                reach[graph.tail[e]] |= 1 << graph.head[e];
                if (graph.oneWay[e] == 0) {
                    reach[graph.head[e]] |= 1 << graph.tail[e];
                }
            }
            strongs = numberStrong(graph.nodes, strong);
        }

        /** Numbers the strong parts by what each node leads to (in reach). */
        private int numberStrong(int nodes, int[] number) {
            for (int k = 0; k < nodes; k++) {
                for (int i = 0; i < nodes; i++) {
                    if ((reach[i] >> k & 1) != 0) {
                        reach[i] |= reach[k];
                    }
                }
            }
            int count = 0;
            Arrays.fill(number, NONE);
            for (int i = 0; i < nodes; i++) {
                if (number[i] == NONE) {
                    number[i] = count;
                    for (int j = i + 1; j < nodes; j++) {
                        if ((reach[i] >> j & 1) != 0 && (reach[j] >> i & 1) != 0) {
                            number[j] = count;
                        }
                    }
                    count++;
                }
            }
            return count;
        }

        private void learnCore(Graph graph) {
            int left = (1 << graph.nodes) - 1;
            for (int k = 0; k < MAX_NODES && left != 0; k++) {
                int before = 0;
                for (int round = 0; round <= MAX_NODES && left != before; round++) {
                    before = left;
                    left = peel(graph, left, k);
                }
            }
        }

        private int peel(Graph graph, int set, int k) {
            int left = set;
            for (int v = 0; v < graph.nodes; v++) {
                if ((left >> v & 1) != 0 && Integer.bitCount(graph.near[v] & left) <= k) {
                    left &= ~(1 << v);
                    core[v] = k;
                }
            }
            return left;
        }

        private void learnTurned(Graph graph) {
            Arrays.fill(reach, 0);
            for (int e = 0; e < graph.edges; e++) {
                reach[graph.tail[e]] |= 1 << graph.head[e];
            }
            int loops = numberStrong(graph.nodes, loop);
            for (int k = 0; k < loops; k++) {
                int count = gather(graph.nodes, k);
                if (count > SMALL_LOOP) {
                    orderLarge(graph, count);
                } else if (count > 1) {
                    orderSmall(graph, count);
                }
            }
            for (int e = 0; e < graph.edges; e++) {
                int a = graph.tail[e];
                int b = graph.head[e];
                turned[e] = loop[a] == loop[b] && rank[a] > rank[b];
            }
        }

        private int gather(int nodes, int wanted) {
            int count = 0;
            for (int v = 0; v < nodes; v++) {
                if (loop[v] == wanted) {
                    member[count] = v;
                    count++;
                }
            }
            return count;
        }

        /** The weight of the edge from a to b, 0 if there is none such. */
        private static int weightOf(Graph graph, int a, int b) {
            int e = graph.edgeBetween(a, b);
            return e != NONE && graph.tail[e] == a ? graph.weight[e] : 0;
        }

        /** least[set]: the least weights that go back when the set's members come last, in some order. */
        private void orderSmall(Graph graph, int count) {
            least[0] = 0;
            for (int set = 1; set < 1 << count; set++) {
                least[set] = MILLION;
                for (int k = 0; k < count; k++) {
                    if ((set >> k & 1) != 0) {
                        least[set] = Math.min(least[set], costAhead(graph, set, k, count));
                    }
                }
            }
            int left = (1 << count) - 1;
            for (int place = 0; place < count; place++) {
                boolean found = false;
                for (int k = 0; k < count && !found; k++) {
                    if ((left >> k & 1) != 0 && costAhead(graph, left, k, count) == least[left]) {
                        rank[member[k]] = place;
                        left &= ~(1 << k);
                        found = true;
                    }
                }
            }
        }

        private int costAhead(Graph graph, int set, int k, int count) {
            int cost = least[set & ~(1 << k)];
            for (int j = 0; j < count; j++) {
                if (j != k && (set >> j & 1) != 0) {
                    cost += weightOf(graph, member[j], member[k]);
                }
            }
            return cost;
        }

        private void orderLarge(Graph graph, int count) {
            int left = 0;
            for (int k = 0; k < count; k++) {
                left |= 1 << member[k];
            }
            int begin = 0;
            int end = count - 1;
            for (int k = 0; k < count; k++) {
                int last = pickLast(graph, left, count);
                if (last != NONE) {
                    rank[last] = end;
                    end--;
                    left &= ~(1 << last);
                } else {
                    int first = pickFirst(graph, left, count);
                    rank[first] = begin;
                    begin++;
                    left &= ~(1 << first);
                }
            }
        }

        /** The weights of edges from a node to a set of others (out), or to it from them. */
        private static int weights(Graph graph, int v, int set, boolean out) {
            int sum = 0;
            for (int e = 0; e < graph.edges; e++) {
                int own = out ? graph.tail[e] : graph.head[e];
                int other = out ? graph.head[e] : graph.tail[e];
                if (own == v && (set >> other & 1) != 0) {
                    sum += graph.weight[e];
                }
            }
            return sum;
        }

        private int pickLast(Graph graph, int left, int count) {
            for (int k = count - 1; k >= 0; k--) {
                int v = member[k];
                if ((left >> v & 1) != 0 && weights(graph, v, left, true) == 0) {
                    return v;
                }
            }
            return NONE;
        }

        private int pickFirst(Graph graph, int left, int count) {
            int best = lowest(left);
            int most = -MILLION;
            for (int k = 0; k < count; k++) {
                int v = member[k];
                if ((left >> v & 1) == 0) {
                    continue;
                }
                int in = weights(graph, v, left, false);
                if (in == 0) {
                    return v;
                }
                int gain = weights(graph, v, left, true) - in;
                if (gain > most) {
                    most = gain;
                    best = v;
                }
            }
            return best;
        }
    }

    /** A graph with the order of edges around its nodes; edge e has ends 2e (tail) and 2e + 1 (head). */
    private static final class Net {
        /** Of the graph in its place: 1, 0, or NONE when it has not been looked at. */
        int planar = NONE;
        int outer = NONE;
        int kind = NONE;
        int barredEdges = 0;
        final int[] barred = new int[MAX_EDGES];
        int nodes = 0;
        int edges = 0;
        final int[] tail = new int[NET_EDGES];
        final int[] head = new int[NET_EDGES];
        final int[] near = new int[NET_NODES];
        final int[] link = new int[NET_NODES * NET_NODES];
        /** The edge that stands behind an edge around its node, by ends. */
        final int[] behind = new int[2 * NET_EDGES];
        final int[] first = new int[NET_NODES];
        int faces = 0;
        final int[] rowStart = new int[2 * NET_EDGES + 1];
        final int[] rowNode = new int[2 * NET_EDGES];
        /** The face round which one goes along an edge from that end. */
        final int[] faceOf = new int[2 * NET_EDGES];

        void forget() {
            planar = NONE;
            outer = NONE;
            kind = NONE;
            barredEdges = 0;
        }

        void begin(int count) {
            nodes = count;
            edges = 0;
            faces = 0;
            Arrays.fill(near, 0);
            Arrays.fill(link, NONE);
            Arrays.fill(first, NONE);
        }

        void load(Graph graph) {
            begin(graph.nodes);
            for (int e = 0; e < graph.edges; e++) {
                join(graph.tail[e], graph.head[e]);
            }
        }

        /** An edge without a place around its nodes; with no room for it there is none. */
        int join(int a, int b) {
            if (edges >= NET_EDGES) {
                return NONE;
            }
            int e = edges;
            tail[e] = a;
            head[e] = b;
            link[a * NET_NODES + b] = e;
            link[b * NET_NODES + a] = e;
            near[a] |= 1 << b;
            near[b] |= 1 << a;
            edges++;
            return e;
        }

        int edgeBetween(int a, int b) {
            return link[a * NET_NODES + b];
        }

        int endAt(int e, int v) {
            return tail[e] == v ? 2 * e : 2 * e + 1;
        }

        void insertBehind(int e, int v, int f) {
            behind[endAt(e, v)] = behind[endAt(f, v)];
            behind[endAt(f, v)] = e;
        }

        void insertAhead(int e, int v, int f) {
            int before = f;
            for (int k = 0; k < edges && behind[endAt(before, v)] != f; k++) {
                before = behind[endAt(before, v)];
            }
            insertBehind(e, v, before);
        }

        void insertLast(int e, int v) {
            if (first[v] == NONE) {
                first[v] = e;
                behind[endAt(e, v)] = e;
            } else {
                insertAhead(e, v, first[v]);
            }
        }

        void traceFaces() {
            faces = 0;
            int length = 0;
            Arrays.fill(faceOf, NONE);
            for (int start = 0; start < 2 * edges; start++) {
                if (faceOf[start] != NONE) {
                    continue;
                }
                rowStart[faces] = length;
                int end = start;
                for (int k = 0; k < 2 * edges && faceOf[end] == NONE; k++) {
                    faceOf[end] = faces;
                    rowNode[length] = (end & 1) == 0 ? tail[end / 2] : head[end / 2];
                    length++;
                    int v = (end & 1) == 0 ? head[end / 2] : tail[end / 2];
                    end = endAt(behind[end ^ 1], v);
                }
                faces++;
            }
            rowStart[faces] = length;
        }

        int edgeAround(int v, int k) {
            if (v >= nodes || k >= Integer.bitCount(near[v])) {
                return NONE;
            }
            int e = first[v];
            for (int i = 0; i < k; i++) {
                e = behind[endAt(e, v)];
            }
            return e;
        }

        int nodeOfFace(int face, int k) {
            if (face >= faces || k >= rowStart[face + 1] - rowStart[face]) {
                return NONE;
            }
            return rowNode[rowStart[face] + k];
        }

        void copyFrom(Net other) {
            begin(other.nodes);
            for (int e = 0; e < other.edges; e++) {
                join(other.tail[e], other.head[e]);
            }
            System.arraycopy(other.behind, 0, behind, 0, 2 * other.edges);
            System.arraycopy(other.first, 0, first, 0, other.nodes);
        }
    }

    /** Embeds nets block by block, by rings, pieces and ways; finds what bars the others. */
    private static final class Embedder {
        private Net net = null;
        private final Net probe = new Net();
        private final int[] block = new int[NET_EDGES];
        private final boolean[] drawn = new boolean[NET_EDGES];
        private final boolean[] kept = new boolean[MAX_EDGES];
        private int blockNodes = 0;
        private int drawnNodes = 0;
        private int cycles = 0;
        private final int[] cycle = new int[MAX_CYCLES * NET_NODES];
        private final int[] cycleLength = new int[MAX_CYCLES];
        private final int[] cycleNodes = new int[MAX_CYCLES];
        private final int[] fresh = new int[2 * NET_NODES];
        /** The edge behind an edge around its node within its block, by ends. */
        private final int[] after = new int[2 * NET_EDGES];
        private final int[] level = new int[NET_NODES + 1];
        private final int[] way = new int[NET_NODES + 2];
        private int wayLength = 0;
        private int pieceNodes = 0;
        private int pieceEnds = 0;
        private int pieceCycle = 0;
        private final int[] around = new int[NET_EDGES];

        int outer(Graph graph, Net place) {
            if (place.outer == NONE) {
                probe.load(graph);
                probe.nodes++;
                for (int v = 0; v < graph.nodes; v++) {
                    probe.join(v, graph.nodes);
                }
                place.outer = embed(probe) ? 1 : 0;
            }
            return place.outer;
        }

        /** Finds what bars a graph that is not planar. */
        void bar(Graph graph, Net place) {
            for (int e = 0; e < graph.edges; e++) {
                kept[e] = true;
            }
            for (int e = graph.edges - 1; e >= 0; e--) {
                kept[e] = false;
                loadKept(graph);
                if (embed(probe)) {
                    kept[e] = true;
                }
            }
            loadKept(graph);
            for (int e = 0; e < graph.edges; e++) {
                if (kept[e]) {
                    place.barred[place.barredEdges] = e;
                    place.barredEdges++;
                }
            }
            place.kind = 33;
            for (int v = 0; v < probe.nodes; v++) {
                if (Integer.bitCount(probe.near[v]) == 4) {
                    place.kind = 5;
                }
            }
        }

        private void loadKept(Graph graph) {
            probe.begin(graph.nodes);
            for (int e = 0; e < graph.edges; e++) {
                if (kept[e]) {
                    probe.join(graph.tail[e], graph.head[e]);
                }
            }
        }

        /** Whether a net is planar; then it has its orders around nodes and its faces. */
        boolean embed(Net wanted) {
            net = wanted;
            int blocks = Facts.blocksOf(net.nodes, net.edges, net.tail, net.head, net.near, block);
            for (int b = 0; b < blocks; b++) {
                int left = beginBlock(b);
                for (int k = 0; k < NET_EDGES && left > 0; k++) {
                    if (!pickPiece(b) || !findWay()) {
                        return false;
                    }
                    splitCycle();
                    left -= wayLength - 1;
                }
                turnByCycles();
            }
            for (int v = 0; v < net.nodes; v++) {
                joinBlocksAt(v, blocks);
            }
            net.traceFaces();
            return true;
        }

        /** Lays a block's ring, or its only edge; answers how many edges are left. */
        private int beginBlock(int b) {
            int least = NONE;
            int count = 0;
            blockNodes = 0;
            for (int e = net.edges - 1; e >= 0; e--) {
                if (block[e] == b) {
                    drawn[e] = false;
                    least = e;
                    count++;
                    blockNodes |= 1 << net.tail[e] | 1 << net.head[e];
                }
            }
            cycles = 0;
            if (count == 1) {
                after[2 * least] = least;
                after[2 * least + 1] = least;
                return 0;
            }
            int t = net.tail[least];
            int h = net.head[least];
            int free = blockNodes & ~(1 << t) & ~(1 << h);
            wayLength = Facts.shortestWay(net.near, net.nodes, h, 1 << t, free, level, way);
            layRing(t);
            drawWay();
            drawn[least] = true;
            return count - wayLength;
        }

        /** The two faces of the ring that goes from a node over the way back to it. */
        private void layRing(int t) {
            cycle[0] = t;
            cycle[NET_NODES] = t;
            drawnNodes = 1 << t;
            for (int k = 1; k < wayLength; k++) {
                cycle[k] = way[k - 1];
                cycle[NET_NODES + wayLength - k] = way[k - 1];
                drawnNodes |= 1 << way[k - 1];
            }
            cycles = 2;
            cycleLength[0] = wayLength;
            cycleLength[1] = wayLength;
            cycleNodes[0] = drawnNodes;
            cycleNodes[1] = drawnNodes;
        }

        private void drawWay() {
            for (int k = 0; k + 1 < wayLength; k++) {
                int e = net.edgeBetween(way[k], way[k + 1]);
                if (e != NONE) {
                    drawn[e] = true;
                }
            }
        }

        /** Picks the piece that the fewest faces fit; false when there is one that none fits. */
        private boolean pickPiece(int b) {
            int fewest = MILLION;
            int seen = 0;
            for (int e = 0; e < net.edges; e++) {
                if (block[e] != b || drawn[e]) {
                    continue;
                }
                int both = 1 << net.tail[e] | 1 << net.head[e];
                int free = both & ~drawnNodes;
                if ((free & seen) != 0) {
                    continue;
                }
                int inside = Facts.spread(net.near, net.nodes, free, blockNodes & ~drawnNodes);
                seen |= inside;
                int ends = free == 0 ? both : Facts.nearOf(net.near, net.nodes, inside) & blockNodes & drawnNodes;
                int fits = countFits(ends);
                if (fits == 0) {
                    return false;
                }
                if (fits < fewest) {
                    fewest = fits;
                    pieceNodes = inside;
                    pieceEnds = ends;
                }
            }
            pieceCycle = firstFit(pieceEnds);
            return fewest < MILLION;
        }

        private int countFits(int ends) {
            int fits = 0;
            for (int c = 0; c < cycles; c++) {
                if ((cycleNodes[c] & ends) == ends) {
                    fits++;
                }
            }
            return fits;
        }

        private int firstFit(int ends) {
            for (int c = 0; c < cycles; c++) {
                if ((cycleNodes[c] & ends) == ends) {
                    return c;
                }
            }
            return 0;
        }

        /** Each piece of a block has a way, and each face a place: what is asked here keeps indices safe. */
        private boolean findWay() {
            int a = Facts.lowest(pieceEnds);
            int others = pieceEnds & ~(1 << a);
            if (pieceNodes == 0) {
                way[0] = a;
                way[1] = Facts.lowest(others);
                wayLength = 2;
            } else {
                wayLength = Facts.shortestWay(net.near, net.nodes, a, others, pieceNodes, level, way);
            }
            drawWay();
            return wayLength >= 2 && cycles < MAX_CYCLES;
        }

        private void splitCycle() {
            int c = pieceCycle;
            int a = way[0];
            int b = way[wayLength - 1];
            int length = copyStretch(c, a, b);
            for (int k = wayLength - 2; k > 0; k--) {
                fresh[length] = way[k];
                length++;
            }
            int otherLength = copyOther(c, b, a);
            storeCycle(cycles, cycles * NET_NODES, otherLength);
            cycles++;
            System.arraycopy(fresh, 0, cycle, c * NET_NODES, length);
            storeCycle(c, c * NET_NODES, length);
            for (int k = 1; k < wayLength - 1; k++) {
                drawnNodes |= 1 << way[k];
            }
        }

        /** The face's row from one node as it goes to another, into the fresh row: its length. */
        private int copyStretch(int c, int from, int to) {
            int start = indexIn(c, from);
            int length = 0;
            for (int k = 0; k < cycleLength[c]; k++) {
                int v = cycle[c * NET_NODES + (start + k) % cycleLength[c]];
                fresh[length] = v;
                length++;
                if (v == to) {
                    break;
                }
            }
            return length;
        }

        /** The other half, with the way on to its end, straight into the last row. */
        private int copyOther(int c, int from, int to) {
            int start = indexIn(c, from);
            int length = 0;
            for (int k = 0; k < cycleLength[c]; k++) {
                int v = cycle[c * NET_NODES + (start + k) % cycleLength[c]];
                cycle[cycles * NET_NODES + length] = v;
                length++;
                if (v == to) {
                    break;
                }
            }
            for (int k = 1; k < wayLength - 1; k++) {
                cycle[cycles * NET_NODES + length] = way[k];
                length++;
            }
            return length;
        }

        private int indexIn(int c, int v) {
            for (int k = 0; k < cycleLength[c]; k++) {
                if (cycle[c * NET_NODES + k] == v) {
                    return k;
                }
            }
            return 0;
        }

        private void storeCycle(int c, int start, int length) {
            cycleLength[c] = length;
            cycleNodes[c] = 0;
            for (int k = 0; k < length; k++) {
                cycleNodes[c] |= 1 << cycle[start + k];
            }
        }

        private void turnByCycles() {
            for (int c = 0; c < cycles; c++) {
                int length = cycleLength[c];
                for (int k = 0; k < length; k++) {
                    int u = cycle[c * NET_NODES + k];
                    int v = cycle[c * NET_NODES + (k + 1) % length];
                    int w = cycle[c * NET_NODES + (k + 2) % length];
                    int come = net.edgeBetween(u, v);
                    int go = net.edgeBetween(v, w);
                    if (come != NONE && go != NONE) {
                        after[net.endAt(come, v)] = go;
                    }
                }
            }
        }

        private void joinBlocksAt(int v, int blocks) {
            int count = 0;
            for (int b = 0; b < blocks; b++) {
                int least = leastEdgeAt(v, b);
                int e = least;
                for (int k = 0; k < NET_EDGES && e != NONE && count < NET_EDGES; k++) {
                    around[count] = e;
                    count++;
                    e = after[net.endAt(e, v)];
                    if (e == least) {
                        break;
                    }
                }
            }
            net.first[v] = count == 0 ? NONE : around[0];
            for (int k = 0; k < count; k++) {
                net.behind[net.endAt(around[k], v)] = around[(k + 1) % count];
            }
        }

        private int leastEdgeAt(int v, int b) {
            for (int e = 0; e < net.edges; e++) {
                if (block[e] == b && (net.tail[e] == v || net.head[e] == v)) {
                    return e;
                }
            }
            return NONE;
        }
    }

    /** A graph's drawing, what its way told, its shades, and the judge, who looks at points alone. */
    private static final class Drawing {
        private final Graph graph;
        /** The way by which it was drawn, NONE without a drawing. */
        int way = NONE;
        final int[] x = new int[MAX_NODES];
        final int[] y = new int[MAX_NODES];
        final int[] bends = new int[MAX_EDGES];
        final int[] bendX = new int[MAX_EDGES * MAX_BENDS];
        final int[] bendY = new int[MAX_EDGES * MAX_BENDS];
        /** Crossings, of layers or of a ring. */
        int crossings = 0;
        int spans = 0;
        int band = 0;
        final int[] layer = new int[MAX_NODES];
        final boolean[] turned = new boolean[MAX_EDGES];
        final int[] rank = new int[MAX_NODES];
        /** Rectangles of nodes, then of groups: x, y, width, height. */
        final int[] area = new int[4 * (MAX_NODES + MAX_GROUPS)];
        /** Color, width and form of nodes, then of edges. */
        final int[] shades = new int[3 * (MAX_NODES + MAX_EDGES)];
        private final int[] labelX = new int[MAX_EDGES];
        private final int[] labelY = new int[MAX_EDGES];
        private int leastX = 0;
        private int leastY = 0;
        private int mostX = 0;
        private int mostY = 0;

        Drawing(Graph owner) {
            graph = owner;
        }

        void wipe() {
            way = NONE;
            Arrays.fill(shades, 0);
        }

        void dropBends() {
            Arrays.fill(bends, 0);
        }

        /** The caller has looked for room. */
        void addBend(int e, int px, int py) {
            bendX[e * MAX_BENDS + bends[e]] = px;
            bendY[e * MAX_BENDS + bends[e]] = py;
            bends[e]++;
        }

        int coordinate(int what, int i, int k) {
            if (way == NONE) {
                return NO_POINT;
            }
            if (what == 0 || what == 1) {
                if (!graph.hasNode(i)) {
                    return NO_POINT;
                }
                return what == 0 ? x[i] : y[i];
            }
            if (!graph.hasEdge(i)) {
                return NO_POINT;
            }
            if (what == 2) {
                return bends[i];
            }
            if ((what != 3 && what != 4) || k < 0 || k >= bends[i]) {
                return NO_POINT;
            }
            return what == 3 ? bendX[i * MAX_BENDS + k] : bendY[i * MAX_BENDS + k];
        }

        int report(int what, int i) {
            if (way == NONE) {
                return NONE;
            }
            if (what == 0) {
                return way;
            }
            switch (way) {
                case 0: return reportLayers(what, i);
                case 2: return what == 15 && graph.hasNode(i) ? rank[i] : NONE;
                case 4: return reportArea(what, i);
                case 5: return what == 14 ? crossings : NONE;
                case 7: return what == 5 ? band : NONE;
                default: return NONE;
            }
        }

        private int reportLayers(int what, int i) {
            if (what == 1) {
                return crossings;
            }
            if (what == 2) {
                return spans;
            }
            if (what == 3 && graph.hasNode(i)) {
                return layer[i];
            }
            if (what == 4 && graph.hasEdge(i)) {
                return turned[i] ? 1 : 0;
            }
            return NONE;
        }

        private int reportArea(int what, int i) {
            if (what >= 6 && what <= 9 && graph.hasNode(i)) {
                return area[4 * i + what - 6];
            }
            if (what >= 10 && what <= 13 && graph.hasGroup(i)) {
                return area[4 * (MAX_NODES + i) + what - 10];
            }
            return NONE;
        }

        boolean move(int i, int k, int px, int py) {
            if (way == NONE || px < -MAX_POINT || px > MAX_POINT || py < -MAX_POINT || py > MAX_POINT) {
                return false;
            }
            if (k == NONE) {
                if (!graph.hasNode(i)) {
                    return false;
                }
                x[i] = px;
                y[i] = py;
                return true;
            }
            if (!graph.hasEdge(i) || k < 0 || k >= bends[i]) {
                return false;
            }
            bendX[i * MAX_BENDS + k] = px;
            bendY[i * MAX_BENDS + k] = py;
            return true;
        }

        /** Point k of an edge: 0 its tail's, then its bends, then its head's. */
        int pointX(int e, int k) {
            if (k == 0) {
                return x[graph.tail[e]];
            }
            return k <= bends[e] ? bendX[e * MAX_BENDS + k - 1] : x[graph.head[e]];
        }

        int pointY(int e, int k) {
            if (k == 0) {
                return y[graph.tail[e]];
            }
            return k <= bends[e] ? bendY[e * MAX_BENDS + k - 1] : y[graph.head[e]];
        }

        boolean isInBox(int i, int px, int py) {
            return Math.abs(px - x[i]) <= graph.half(i) && Math.abs(py - y[i]) <= 1;
        }

        /** Puts the labels of all edges up to this one, as later ones give way to earlier ones. */
        int labelOf(int e, int what) {
            for (int f = 0; f <= e; f++) {
                labelX[f] = NO_POINT;
                labelY[f] = NO_POINT;
                if (graph.weight[f] > 1) {
                    putLabel(f);
                }
            }
            return what == 0 ? labelX[e] : labelY[e];
        }

        private void putLabel(int e) {
            for (int k = 0; k <= bends[e]; k++) {
                int px = Math.floorDiv(pointX(e, k) + pointX(e, k + 1), 2);
                int py = Math.floorDiv(pointY(e, k) + pointY(e, k + 1), 2);
                if (isFree(e, px, py)) {
                    labelX[e] = px;
                    labelY[e] = py;
                    return;
                }
            }
        }

        private boolean isFree(int e, int px, int py) {
            for (int i = 0; i < graph.nodes; i++) {
                if (isInBox(i, px, py)) {
                    return false;
                }
            }
            for (int f = 0; f < e; f++) {
                if (labelX[f] == px && labelY[f] == py) {
                    return false;
                }
            }
            return true;
        }

        /** Finds the least rectangle round all points. */
        void measure() {
            leastX = x[0];
            mostX = x[0];
            leastY = y[0];
            mostY = y[0];
            for (int i = 1; i < graph.nodes; i++) {
                take(x[i], y[i]);
            }
            for (int e = 0; e < graph.edges; e++) {
                for (int k = 1; k <= bends[e]; k++) {
                    take(pointX(e, k), pointY(e, k));
                }
            }
        }

        private void take(int px, int py) {
            leastX = Math.min(leastX, px);
            mostX = Math.max(mostX, px);
            leastY = Math.min(leastY, py);
            mostY = Math.max(mostY, py);
        }

        int scaledX(int px, int width) {
            return (px - leastX) * (width - 1) / Math.max(1, mostX - leastX);
        }

        int scaledY(int py, int height) {
            return (py - leastY) * (height - 1) / Math.max(1, mostY - leastY);
        }

        long verdict(int rule) {
            switch (rule) {
                case 0: return countCrossings();
                case 1: return countNodePairs(true);
                case 2: return countStruckNodes();
                case 3: return countUpward();
                case 4: return countBends();
                case 5: return countSlanted();
                case 6: return countNodePairs(false);
                case 7: return wholeArea();
                case 8: return wholeLength();
                case 9: return leastTriangle();
                default: return NONE;
            }
        }

        private long countCrossings() {
            long found = 0;
            for (int e = 0; e < graph.edges; e++) {
                for (int f = e + 1; f < graph.edges; f++) {
                    int shared = sharedNode(e, f);
                    for (int i = 0; i <= bends[e]; i++) {
                        for (int j = 0; j <= bends[f]; j++) {
                            found += clash(e, i, f, j, shared) ? 1 : 0;
                        }
                    }
                }
            }
            return found;
        }

        private int sharedNode(int e, int f) {
            int a = graph.tail[e];
            int b = graph.head[e];
            if (a == graph.tail[f] || a == graph.head[f]) {
                return a;
            }
            return b == graph.tail[f] || b == graph.head[f] ? b : NONE;
        }

        /** On which side of the line from piece k of an edge a point is: 0 on it. */
        private long sideOf(int e, int k, int px, int py) {
            long ax = pointX(e, k);
            long ay = pointY(e, k);
            long bx = pointX(e, k + 1);
            long by = pointY(e, k + 1);
            return (bx - ax) * (py - ay) - (by - ay) * (px - ax);
        }

        private boolean isOnPiece(int e, int k, int px, int py) {
            int ax = pointX(e, k);
            int ay = pointY(e, k);
            int bx = pointX(e, k + 1);
            int by = pointY(e, k + 1);
            return px >= Math.min(ax, bx) && px <= Math.max(ax, bx)
                    && py >= Math.min(ay, by) && py <= Math.max(ay, by)
                    && sideOf(e, k, px, py) == 0;
        }

        /** Whether two pieces have a point in common other than that of the node both edges have. */
        private boolean clash(int e, int i, int f, int j, int shared) {
            int wide = overlap(pointX(e, i), pointX(e, i + 1), pointX(f, j), pointX(f, j + 1));
            int high = overlap(pointY(e, i), pointY(e, i + 1), pointY(f, j), pointY(f, j + 1));
            if (wide < 0 || high < 0) {
                return false;
            }
            long a = sideOf(f, j, pointX(e, i), pointY(e, i));
            long b = sideOf(f, j, pointX(e, i + 1), pointY(e, i + 1));
            long c = sideOf(e, i, pointX(f, j), pointY(f, j));
            long d = sideOf(e, i, pointX(f, j + 1), pointY(f, j + 1));
            if (a > 0 && b > 0 || a < 0 && b < 0 || c > 0 && d > 0 || c < 0 && d < 0) {
                return false;
            }
            if (shared == NONE || !isOnPiece(e, i, x[shared], y[shared]) || !isOnPiece(f, j, x[shared], y[shared])) {
                return true;
            }
            // Both have the node's point: they have another one only where they lie along each other.
            boolean inLine = a == 0 && b == 0 && c == 0 && d == 0;
            return inLine && (wide > 0 || high > 0);
        }

        /** How long the stretch is that two stretches have in common, below 0 for none. */
        private static int overlap(int a, int b, int c, int d) {
            return Math.min(Math.max(a, b), Math.max(c, d)) - Math.max(Math.min(a, b), Math.min(c, d));
        }

        /** Pairs whose boxes have a point in common, or whose points are the same. */
        private long countNodePairs(boolean boxes) {
            long found = 0;
            for (int i = 0; i < graph.nodes; i++) {
                for (int j = i + 1; j < graph.nodes; j++) {
                    int wide = boxes ? graph.half(i) + graph.half(j) : 0;
                    int high = boxes ? 2 : 0;
                    if (Math.abs(x[i] - x[j]) <= wide && Math.abs(y[i] - y[j]) <= high) {
                        found++;
                    }
                }
            }
            return found;
        }

        private long countStruckNodes() {
            long found = 0;
            for (int e = 0; e < graph.edges; e++) {
                for (int i = 0; i < graph.nodes; i++) {
                    if (i != graph.tail[e] && i != graph.head[e] && isStruck(e, i)) {
                        found++;
                    }
                }
            }
            return found;
        }

        private boolean isStruck(int e, int i) {
            for (int k = 0; k <= bends[e]; k++) {
                if (isOnPiece(e, k, x[i], y[i])) {
                    return true;
                }
            }
            return false;
        }

        private long countUpward() {
            long found = 0;
            for (int e = 0; e < graph.edges; e++) {
                boolean down = true;
                for (int k = 0; k <= bends[e]; k++) {
                    down = down && pointY(e, k + 1) > pointY(e, k);
                }
                found += down ? 0 : 1;
            }
            return found;
        }

        private long countBends() {
            long found = 0;
            for (int e = 0; e < graph.edges; e++) {
                found += bends[e];
            }
            return found;
        }

        private long countSlanted() {
            long found = 0;
            for (int e = 0; e < graph.edges; e++) {
                for (int k = 0; k <= bends[e]; k++) {
                    if (pointX(e, k) != pointX(e, k + 1) && pointY(e, k) != pointY(e, k + 1)) {
                        found++;
                    }
                }
            }
            return found;
        }

        private long wholeArea() {
            measure();
            return ((long) mostX - leastX + 1) * ((long) mostY - leastY + 1);
        }

        private long wholeLength() {
            long sum = 0;
            for (int e = 0; e < graph.edges; e++) {
                for (int k = 0; k <= bends[e]; k++) {
                    sum += Math.abs(pointX(e, k + 1) - pointX(e, k));
                    sum += Math.abs(pointY(e, k + 1) - pointY(e, k));
                }
            }
            return sum;
        }

        private long leastTriangle() {
            long least = NONE;
            for (int e = 0; e < graph.edges; e++) {
                int a = graph.tail[e];
                int b = graph.head[e];
                for (int c = 0; c < graph.nodes; c++) {
                    if ((graph.near[a] & graph.near[b] & 1 << c) != 0) {
                        long wide = (long) (x[b] - x[a]) * (y[c] - y[a]);
                        long twice = Math.abs(wide - (long) (y[b] - y[a]) * (x[c] - x[a]));
                        least = least == NONE ? twice : Math.min(least, twice);
                    }
                }
            }
            return least;
        }
    }

    /**
     * Finds whole places, at least 0 each, for which the pieces' costs times their lengths are the
     * least in sum while gaps are kept, and of these the least ones. It is a flow that earns the
     * gaps: as long as a ring of arcs with room earns something, the flow is sent round it; then the
     * places are the greatest earnings of all ways that lead to a node.
     */
    private static final class Stretch {
        private int nodes = 0;
        private int arcs = 0;
        private final int[] from = new int[MAX_ARCS];
        private final int[] to = new int[MAX_ARCS];
        private final int[] room = new int[MAX_ARCS];
        private final int[] gain = new int[MAX_ARCS];
        final int[] place = new int[MAX_ITEMS];
        private final int[] by = new int[MAX_ITEMS];
        private final int[] mark = new int[MAX_ITEMS];

        void begin(int count) {
            nodes = count;
            arcs = 0;
        }

        void addPiece(int a, int b, int cost) {
            addArc(a, b, cost, 0);
            addArc(b, a, cost, 0);
        }

        /** The place of b is to be at least that much behind that of a. */
        void addGap(int a, int b, int length) {
            addArc(a, b, NO_LIMIT, length);
            addArc(b, a, 0, -length);
        }

        private void addArc(int a, int b, int limit, int earning) {
            if (arcs < MAX_ARCS) {
                from[arcs] = a;
                to[arcs] = b;
                room[arcs] = limit;
                gain[arcs] = earning;
                arcs++;
            }
        }

        void solve() {
            Arrays.fill(place, 0);
            for (int k = 0; k < MILLION; k++) {
                int v = findRing();
                if (v == NONE) {
                    break;
                }
                sendRound(v);
            }
            // The places found on the way may be too great: arcs that raised them have no room now.
            Arrays.fill(place, 0);
            for (int k = 0; k <= nodes; k++) {
                if (!raise()) {
                    break;
                }
            }
        }

        /** A node on a ring that earns something, or NONE. */
        private int findRing() {
            Arrays.fill(by, NONE);
            for (int k = 0; k < 4 * MAX_ITEMS; k++) {
                if (!raise()) {
                    return NONE;
                }
                int v = ringInBy();
                if (v != NONE) {
                    return v;
                }
            }
            return NONE;
        }

        private boolean raise() {
            boolean raised = false;
            for (int k = 0; k < arcs; k++) {
                if (room[k] > 0 && place[from[k]] + gain[k] > place[to[k]]) {
                    place[to[k]] = place[from[k]] + gain[k];
                    by[to[k]] = k;
                    raised = true;
                }
            }
            return raised;
        }

        private int ringInBy() {
            Arrays.fill(mark, NONE);
            for (int start = 0; start < nodes; start++) {
                int v = start;
                for (int k = 0; k <= nodes && v != NONE && mark[v] == NONE; k++) {
                    mark[v] = start;
                    v = by[v] == NONE ? NONE : from[by[v]];
                }
                if (v != NONE && mark[v] == start) {
                    return v;
                }
            }
            return NONE;
        }

        private void sendRound(int start) {
            int least = NO_LIMIT;
            int v = start;
            for (int k = 0; k < nodes; k++) {
                least = Math.min(least, room[by[v]]);
                v = from[by[v]];
                if (v == start) {
                    break;
                }
            }
            for (int k = 0; k < nodes; k++) {
                room[by[v]] -= least;
                room[by[v] ^ 1] += least;
                v = from[by[v]];
                if (v == start) {
                    break;
                }
            }
        }
    }

    /** Way 0. Items are the nodes, then the joints by edge, those of an edge from its upper end on. */
    private static final class Layers {
        private final Stretch stretch = new Stretch();
        private Graph graph = null;
        private int layerCount = 0;
        private int items = 0;
        private final int[] layerOf = new int[MAX_ITEMS];
        private final int[] firstJoint = new int[MAX_EDGES];
        private final int[] pieceUpper = new int[MAX_PIECES];
        private final int[] pieceLower = new int[MAX_PIECES];
        private final int[] pieceWeight = new int[MAX_PIECES];
        private final int[] pieceStart = new int[MAX_NODES + 2];
        private final int[] layerStart = new int[MAX_NODES + 2];
        /** The items layer by layer, as listed and as they are put in order. */
        private final int[] listed = new int[MAX_ITEMS];
        private final int[] slot = new int[MAX_ITEMS];
        private final int[] row = new int[MAX_ITEMS];
        private final int[] place = new int[MAX_ITEMS];
        /** For each item the sum of the places of what it is joined to, and of how many. */
        private final int[] sum = new int[MAX_ITEMS];
        private final int[] joined = new int[MAX_ITEMS];
        /** All orders of 1 to 6 things, three bits a place, by size and then as rows. */
        private final int[] orders = new int[ALL_ORDERS];
        /** The least crossings from a layer downwards, by that layer's order. */
        private final int[] least = new int[MAX_NODES * ORDERS];
        private final int[] low = new int[(SMALL_LAYER + 1) * ORDERS];
        private final int[] pair = new int[SMALL_LAYER * SMALL_LAYER];

        Layers() {
            int start = 0;
            for (int size = 1; size <= SMALL_LAYER; size++) {
                start = listOrders(size, start);
            }
        }

        private int listOrders(int size, int start) {
            int[] digit = new int[SMALL_LAYER];
            for (int k = 0; k < size; k++) {
                digit[k] = k;
            }
            int count = countOrders(size);
            for (int i = start; i < start + count; i++) {
                for (int k = 0; k < size; k++) {
                    orders[i] |= digit[k] << 3 * k;
                }
                nextOrder(digit, size);
            }
            return start + count;
        }

        /** The next order as a row; behind the last one it stays. */
        private static void nextOrder(int[] digit, int size) {
            int i = size - 2;
            for (; i >= 0 && digit[i] > digit[i + 1]; i--) {
            }
            if (i < 0) {
                return;
            }
            int j = size - 1;
            for (; j > i && digit[j] < digit[i]; j--) {
            }
            swap(digit, i, j);
            for (int k = 0; i + 1 + k < size - 1 - k; k++) {
                swap(digit, i + 1 + k, size - 1 - k);
            }
        }

        private static void swap(int[] digit, int i, int j) {
            int kept = digit[i];
            digit[i] = digit[j];
            digit[j] = kept;
        }

        int lay(Graph wanted, Facts facts, Drawing drawing) {
            graph = wanted;
            findLayers(facts);
            if (!makeItems(facts)) {
                return REFUSED;
            }
            makePieces(facts);
            int widest = listLayers();
            if (widest <= SMALL_LAYER) {
                bestOrders();
            } else {
                sweep();
            }
            stretchRows();
            write(facts, drawing);
            return 0;
        }

        private int upperEnd(Facts facts, int e) {
            return facts.turned[e] ? graph.head[e] : graph.tail[e];
        }

        private int lowerEnd(Facts facts, int e) {
            return facts.turned[e] ? graph.tail[e] : graph.head[e];
        }

        private void findLayers(Facts facts) {
            stretch.begin(graph.nodes);
            for (int e = 0; e < graph.edges; e++) {
                stretch.addPiece(upperEnd(facts, e), lowerEnd(facts, e), graph.weight[e]);
                stretch.addGap(upperEnd(facts, e), lowerEnd(facts, e), 1);
            }
            stretch.solve();
            layerCount = 0;
            for (int v = 0; v < graph.nodes; v++) {
                layerOf[v] = stretch.place[v];
                layerCount = Math.max(layerCount, layerOf[v] + 1);
            }
        }

        /** False when there are too many nodes and joints. */
        private boolean makeItems(Facts facts) {
            items = graph.nodes;
            for (int e = 0; e < graph.edges; e++) {
                firstJoint[e] = items;
                int top = layerOf[upperEnd(facts, e)];
                int joints = layerOf[lowerEnd(facts, e)] - top - 1;
                if (items + joints > MAX_ITEMS) {
                    return false;
                }
                for (int k = 0; k < joints; k++) {
                    layerOf[items] = top + 1 + k;
                    items++;
                }
            }
            return true;
        }

        private void makePieces(Facts facts) {
            int pieces = 0;
            for (int l = 0; l + 1 < layerCount; l++) {
                pieceStart[l] = pieces;
                for (int e = 0; e < graph.edges; e++) {
                    int top = layerOf[upperEnd(facts, e)];
                    int bottom = layerOf[lowerEnd(facts, e)];
                    if (l < top || l >= bottom) {
                        continue;
                    }
                    pieceUpper[pieces] = l == top ? upperEnd(facts, e) : firstJoint[e] + l - top - 1;
                    pieceLower[pieces] = l + 1 == bottom ? lowerEnd(facts, e) : firstJoint[e] + l - top;
                    pieceWeight[pieces] = graph.weight[e];
                    pieces++;
                }
            }
            pieceStart[layerCount - 1] = pieces;
        }

        /** Lists the items of each layer; answers how many the widest has. */
        private int listLayers() {
            int count = 0;
            int widest = 0;
            for (int l = 0; l < layerCount; l++) {
                layerStart[l] = count;
                for (int i = 0; i < items; i++) {
                    if (layerOf[i] == l) {
                        listed[count] = i;
                        row[count] = i;
                        place[i] = count - layerStart[l];
                        slot[i] = place[i];
                        count++;
                    }
                }
                widest = Math.max(widest, count - layerStart[l]);
            }
            layerStart[layerCount] = count;
            return widest;
        }

        private int sizeOf(int l) {
            return layerStart[l + 1] - layerStart[l];
        }

        /** How many orders so many items have, and where those of so many items begin in the list. */
        private static int countOrders(int size) {
            return ORDER_COUNTS[size];
        }

        private static int firstOrder(int size) {
            return ORDER_STARTS[size];
        }

        private void bestOrders() {
            int last = layerCount - 1;
            for (int k = countOrders(sizeOf(last)) - 1; k >= 0; k--) {
                least[last * ORDERS + k] = 0;
            }
            for (int l = last - 1; l >= 0; l--) {
                int count = countOrders(sizeOf(l));
                int size = sizeOf(l + 1);
                fillLow(l + 1);
                for (int k = 0; k < count; k++) {
                    setOrder(l, k);
                    fillPairs(l);
                    int cost = settlePairs(size);
                    least[l * ORDERS + k] = seek(0, (1 << size) - 1, cost, MILLION);
                }
            }
            int wanted = leastOf(0);
            int chosen = 0;
            for (int k = countOrders(sizeOf(0)) - 1; k >= 0; k--) {
                chosen = least[k] == wanted ? k : chosen;
            }
            setOrder(0, chosen);
            for (int l = 1; l <= last; l++) {
                fillPairs(l - 1);
                chosen = firstBelow(l, wanted);
                setOrder(l, chosen);
                wanted = least[l * ORDERS + chosen];
            }
        }

        private int leastOf(int l) {
            int found = MILLION;
            int count = countOrders(sizeOf(l));
            for (int k = 0; k < count; k++) {
                found = Math.min(found, least[l * ORDERS + k]);
            }
            return found;
        }

        private void setOrder(int l, int k) {
            int size = sizeOf(l);
            int packed = orders[firstOrder(size) + k];
            for (int i = 0; i < size; i++) {
                int item = listed[layerStart[l] + (packed >> 3 * i & 7)];
                row[layerStart[l] + i] = item;
                place[item] = i;
            }
        }

        /** What it costs, with layer l as it is now, when one item below is ahead of another one. */
        private void fillPairs(int l) {
            Arrays.fill(pair, 0);
            for (int i = pieceStart[l]; i < pieceStart[l + 1]; i++) {
                int a = slot[pieceLower[i]];
                int above = place[pieceUpper[i]];
                for (int j = i + 1; j < pieceStart[l + 1]; j++) {
                    int b = slot[pieceLower[j]];
                    int order = above - place[pieceUpper[j]];
                    if (a != b && order > 0) {
                        pair[a * SMALL_LAYER + b]++;
                    } else if (a != b && order < 0) {
                        pair[b * SMALL_LAYER + a]++;
                    }
                }
            }
        }

        private int pairCost(int packed, int size) {
            int cost = 0;
            for (int i = 0; i < size; i++) {
                int a = (packed >> 3 * i & 7) * SMALL_LAYER;
                for (int j = i + 1; j < size; j++) {
                    cost += pair[a + (packed >> 3 * j & 7)];
                }
            }
            return cost;
        }

        /** Takes off each pair what both its orders cost, and answers that in sum: no order costs less. */
        private int settlePairs(int size) {
            int settled = 0;
            for (int a = 0; a < size; a++) {
                for (int b = a + 1; b < size; b++) {
                    int both = Math.min(pair[a * SMALL_LAYER + b], pair[b * SMALL_LAYER + a]);
                    pair[a * SMALL_LAYER + b] -= both;
                    pair[b * SMALL_LAYER + a] -= both;
                    settled += both;
                }
            }
            return settled;
        }

        /**
         * Finds the least crossings further down for all orders of a layer with the same beginning:
         * low[r * ORDERS + k] for those from order k on that differ in their last r places alone.
         */
        private void fillLow(int l) {
            int count = countOrders(sizeOf(l));
            System.arraycopy(least, l * ORDERS, low, ORDERS, count);
            for (int r = 2; r <= sizeOf(l); r++) {
                int share = countOrders(r - 1);
                for (int k = 0; k < count; k += r * share) {
                    int found = MILLION;
                    for (int i = 0; i < r; i++) {
                        found = Math.min(found, low[(r - 1) * ORDERS + k + i * share]);
                    }
                    low[r * ORDERS + k] = found;
                }
            }
        }

        /**
         * The least crossings with an order of a layer of which some items are left to be placed, if
         * that is below the best so far. (first: the first of the orders with this beginning.) It
         * goes no deeper than a layer has items.
         */
        private int seek(int first, int left, int cost, int best) {
            int size = Integer.bitCount(left);
            if (size <= 1) {
                return Math.min(best, cost + low[ORDERS + first]);
            }
            int found = best;
            int next = first;
            for (int a = 0; a < SMALL_LAYER; a++) {
                if ((left >> a & 1) == 0) {
                    continue;
                }
                int rest = left & ~(1 << a);
                int now = cost + low[(size - 1) * ORDERS + next];
                for (int b = 0; b < SMALL_LAYER && now < found; b++) {
                    if ((rest >> b & 1) != 0) {
                        now += pair[a * SMALL_LAYER + b];
                    }
                }
                if (now < found) {
                    found = seek(next, rest, now - low[(size - 1) * ORDERS + next], found);
                }
                next += countOrders(size - 1);
            }
            return found;
        }

        private int firstBelow(int l, int wanted) {
            int size = sizeOf(l);
            int first = firstOrder(size);
            int count = countOrders(size);
            for (int k = 0; k < count; k++) {
                int rest = least[l * ORDERS + k];
                if (rest <= wanted && rest + pairCost(orders[first + k], size) == wanted) {
                    return k;
                }
            }
            return 0;
        }

        private void sweep() {
            // The list itself is the first order asked, and holds the best one from then on.
            int fewest = countCrossings();
            for (int k = 0; k < SWEEPS; k++) {
                if (k % 2 == 0) {
                    for (int l = 1; l < layerCount; l++) {
                        sortLayer(l, l - 1);
                    }
                } else {
                    for (int l = layerCount - 2; l >= 0; l--) {
                        sortLayer(l, l);
                    }
                }
                int found = countCrossings();
                if (found < fewest) {
                    fewest = found;
                    System.arraycopy(row, 0, listed, 0, items);
                }
            }
            System.arraycopy(listed, 0, row, 0, items);
            for (int l = 0; l < layerCount; l++) {
                setPlaces(l);
            }
        }

        private void setPlaces(int l) {
            for (int k = layerStart[l]; k < layerStart[l + 1]; k++) {
                place[row[k]] = k - layerStart[l];
            }
        }

        /** Sorts a layer by what its pieces between two layers (the upper one given) lead to. */
        private void sortLayer(int l, int upper) {
            for (int k = layerStart[l]; k < layerStart[l + 1]; k++) {
                sum[row[k]] = 0;
                joined[row[k]] = 0;
            }
            for (int k = pieceStart[upper]; k < pieceStart[upper + 1]; k++) {
                int own = upper == l ? pieceUpper[k] : pieceLower[k];
                int other = upper == l ? pieceLower[k] : pieceUpper[k];
                sum[own] += place[other];
                joined[own]++;
            }
            for (int k = layerStart[l]; k < layerStart[l + 1]; k++) {
                if (joined[row[k]] == 0) {
                    sum[row[k]] = k - layerStart[l];
                    joined[row[k]] = 1;
                }
            }
            for (int k = layerStart[l] + 1; k < layerStart[l + 1]; k++) {
                int item = row[k];
                int j = k;
                for (; j > layerStart[l] && sum[row[j - 1]] * joined[item] > sum[item] * joined[row[j - 1]]; j--) {
                    row[j] = row[j - 1];
                }
                row[j] = item;
            }
            setPlaces(l);
        }

        private int countCrossings() {
            int found = 0;
            for (int l = 0; l + 1 < layerCount; l++) {
                for (int i = pieceStart[l]; i < pieceStart[l + 1]; i++) {
                    for (int j = i + 1; j < pieceStart[l + 1]; j++) {
                        int above = place[pieceUpper[i]] - place[pieceUpper[j]];
                        int below = place[pieceLower[i]] - place[pieceLower[j]];
                        if (above < 0 && below > 0 || above > 0 && below < 0) {
                            found++;
                        }
                    }
                }
            }
            return found;
        }

        private int halfOf(int item) {
            return item < graph.nodes ? graph.half(item) : 0;
        }

        private void stretchRows() {
            stretch.begin(items);
            for (int k = 0; k < pieceStart[layerCount - 1]; k++) {
                int a = pieceUpper[k];
                int b = pieceLower[k];
                int joints = (a < graph.nodes ? 0 : 1) + (b < graph.nodes ? 0 : 1);
                int factor = joints == 2 ? 8 : joints + 1;
                stretch.addPiece(a, b, pieceWeight[k] * factor);
            }
            for (int l = 0; l < layerCount; l++) {
                for (int k = layerStart[l] + 1; k < layerStart[l + 1]; k++) {
                    stretch.addGap(row[k - 1], row[k], halfOf(row[k - 1]) + halfOf(row[k]) + 2);
                }
            }
            stretch.solve();
        }

        private void write(Facts facts, Drawing drawing) {
            drawing.dropBends();
            drawing.crossings = countCrossings();
            drawing.spans = 0;
            for (int v = 0; v < graph.nodes; v++) {
                drawing.x[v] = stretch.place[v];
                drawing.y[v] = 5 * layerOf[v];
                drawing.layer[v] = layerOf[v];
            }
            for (int e = 0; e < graph.edges; e++) {
                drawing.turned[e] = facts.turned[e];
                int span = layerOf[lowerEnd(facts, e)] - layerOf[upperEnd(facts, e)];
                drawing.spans += graph.weight[e] * span;
                for (int k = 0; k < span - 1; k++) {
                    int item = facts.turned[e] ? firstJoint[e] + span - 2 - k : firstJoint[e] + k;
                    drawing.addBend(e, stretch.place[item], 5 * layerOf[item]);
                }
            }
        }
    }

    /** Ways 1 and 2, which need an embedding. */
    private static final class PlanarWays {
        private final Net net = new Net();
        private final int[] order = new int[MAX_NODES];
        private final int[] line = new int[MAX_NODES];
        private int lineLength = 0;
        private final int[] under = new int[MAX_NODES];
        private final int[] level = new int[NET_NODES + 1];
        private final int[] way = new int[NET_NODES + 2];
        private final int[] faceX = new int[2 * NET_EDGES];
        private final int[] edgeX = new int[MAX_EDGES];

        int lay(int wayNumber, Graph graph, Facts facts, Net embedded, Drawing drawing) {
            if (embedded.planar == 0) {
                return REFUSED;
            }
            if (wayNumber == 1) {
                if (graph.nodes < 3) {
                    return TOO_FEW_NODES;
                }
                layGrid(facts, embedded, drawing);
                return 0;
            }
            if (graph.nodes < 3 || facts.blocks != 1 || facts.parts != 1) {
                return REFUSED;
            }
            layBars(graph, embedded, drawing);
            return 0;
        }

        private void layGrid(Facts facts, Net embedded, Drawing drawing) {
            net.copyFrom(embedded);
            joinParts(facts);
            fillFaces();
            findOrder();
            placeByOrder(drawing);
            int greatest = 0;
            for (int v = 0; v < net.nodes; v++) {
                greatest = Math.max(greatest, drawing.y[v]);
            }
            for (int v = 0; v < net.nodes; v++) {
                drawing.y[v] = greatest - drawing.y[v];
            }
            drawing.dropBends();
        }

        /** The part of node 0 takes in the others one by one, so its least node stays 0. */
        private void joinParts(Facts facts) {
            for (int p = 1; p < facts.parts; p++) {
                for (int v = 0; v < net.nodes; v++) {
                    if (facts.part[v] == p) {
                        int e = net.join(0, v);
                        if (e != NONE) {
                            net.insertLast(e, 0);
                            net.insertLast(e, v);
                        }
                        break;
                    }
                }
            }
            net.traceFaces();
        }

        private void fillFaces() {
            for (int k = 0; k < NET_EDGES; k++) {
                int face = firstLongFace();
                if (face == NONE || !cutFace(face)) {
                    return;
                }
                net.traceFaces();
            }
        }

        private int firstLongFace() {
            for (int f = 0; f < net.faces; f++) {
                if (net.rowStart[f + 1] - net.rowStart[f] > 3) {
                    return f;
                }
            }
            return NONE;
        }

        private boolean cutFace(int face) {
            int start = net.rowStart[face];
            int length = net.rowStart[face + 1] - start;
            for (int k = 0; k < length; k++) {
                int a = net.rowNode[start + k];
                int b = net.rowNode[start + (k + 1) % length];
                int c = net.rowNode[start + (k + 2) % length];
                if (a == c || (net.near[a] >> c & 1) != 0) {
                    continue;
                }
                int ahead = net.edgeBetween(a, b);
                int come = net.edgeBetween(b, c);
                int e = net.join(a, c);
                if (e == NONE || ahead == NONE || come == NONE) {
                    return false;
                }
                net.insertAhead(e, a, ahead);
                net.insertBehind(e, c, come);
                return true;
            }
            return false;
        }

        /** Takes nodes off the outer ring, held as the line from u over the top to v. */
        private void findOrder() {
            int u = net.rowNode[0];
            int v = net.rowNode[1];
            order[0] = u;
            order[1] = v;
            line[0] = u;
            line[1] = net.rowNode[2];
            line[2] = v;
            lineLength = 3;
            int left = (1 << net.nodes) - 1;
            for (int place = net.nodes - 1; place >= 2; place--) {
                int k = pickFromLine();
                order[place] = line[k];
                left &= ~(1 << line[k]);
                openLine(k, left);
            }
        }

        private int pickFromLine() {
            int ring = 0;
            for (int k = 0; k < lineLength; k++) {
                ring |= 1 << line[k];
            }
            int best = 1;
            int greatest = NONE;
            for (int k = 1; k + 1 < lineLength; k++) {
                if (line[k] > greatest && Integer.bitCount(net.near[line[k]] & ring) == 2) {
                    greatest = line[k];
                    best = k;
                }
            }
            return best;
        }

        /** In the place of a node come those that were under it, as they stand around it. */
        private void openLine(int k, int left) {
            int gone = line[k];
            int before = line[k - 1];
            int behind = line[k + 1];
            int e = net.edgeBetween(gone, before);
            int count = 0;
            for (int i = 0; i < NET_EDGES && e != NONE; i++) {
                e = net.behind[net.endAt(e, gone)];
                int v = net.tail[e] == gone ? net.head[e] : net.tail[e];
                if (v == behind || count >= MAX_NODES) {
                    break;
                }
                if ((left >> v & 1) != 0) {
                    way[count] = v;
                    count++;
                }
            }
            replaceInLine(k, 1, count);
        }

        /** Puts the first nodes of the way in the place of some of the line. */
        private void replaceInLine(int start, int gone, int count) {
            int rest = lineLength - start - gone;
            if (lineLength - gone + count > MAX_NODES || rest < 0 || gone < 0) {
                return;
            }
            System.arraycopy(line, start + gone, line, start + count, rest);
            System.arraycopy(way, 0, line, start, count);
            lineLength += count - gone;
        }

        private void placeByOrder(Drawing drawing) {
            for (int k = 0; k < 3; k++) {
                int v = order[k];
                drawing.x[v] = k == 0 ? 0 : 3 - k;
                drawing.y[v] = k == 2 ? 1 : 0;
                under[v] = 1 << v;
            }
            line[0] = order[0];
            line[1] = order[2];
            line[2] = order[1];
            lineLength = 3;
            for (int k = 3; k < net.nodes; k++) {
                placeNext(drawing, order[k]);
            }
        }

        private void placeNext(Drawing drawing, int v) {
            int l = NONE;
            int r = 0;
            for (int k = 0; k < lineLength; k++) {
                if ((net.near[v] >> line[k] & 1) != 0) {
                    l = l == NONE ? k : l;
                    r = k;
                }
            }
            l = Math.max(l, 0);
            under[v] = 1 << v;
            for (int k = l + 1; k < lineLength; k++) {
                shiftUnder(drawing, line[k], k < r ? 1 : 2);
                under[v] |= k < r ? under[line[k]] : 0;
            }
            int a = line[l];
            int b = line[r];
            drawing.x[v] = (drawing.x[a] + drawing.x[b] + drawing.y[b] - drawing.y[a]) / 2;
            drawing.y[v] = (drawing.x[b] - drawing.x[a] + drawing.y[a] + drawing.y[b]) / 2;
            way[0] = v;
            replaceInLine(l + 1, r - l - 1, 1);
        }

        private void shiftUnder(Drawing drawing, int top, int distance) {
            for (int v = 0; v < net.nodes; v++) {
                if ((under[top] >> v & 1) != 0) {
                    drawing.x[v] += distance;
                }
            }
        }

        private void layBars(Graph graph, Net embedded, Drawing drawing) {
            orderFromTo(graph);
            for (int k = 0; k < graph.nodes; k++) {
                drawing.rank[line[k]] = k;
            }
            raiseNodes(graph, drawing);
            moveFaces(graph, embedded, drawing.rank);
            edgeX[0] = NONE;
            for (int e = 1; e < graph.edges; e++) {
                edgeX[e] = faceX[leftFace(embedded, drawing.rank, e)];
            }
            drawing.dropBends();
            for (int v = 0; v < graph.nodes; v++) {
                drawing.x[v] = middleOfEdges(graph, v);
                drawing.y[v] *= 3;
            }
            for (int e = 0; e < graph.edges; e++) {
                drawing.addBend(e, edgeX[e], drawing.y[graph.tail[e]]);
                drawing.addBend(e, edgeX[e], drawing.y[graph.head[e]]);
            }
        }

        /** The st-order, into the line. */
        private void orderFromTo(Graph graph) {
            line[0] = graph.tail[0];
            line[1] = graph.head[0];
            lineLength = 2;
            int inside = 1 << line[0] | 1 << line[1];
            int all = (1 << graph.nodes) - 1;
            for (int round = 0; round < MAX_NODES && inside != all; round++) {
                int length = 0;
                for (int a = 0; a < graph.nodes && length == 0; a++) {
                    if ((inside >> a & 1) != 0) {
                        int ends = inside & ~(1 << a);
                        length = Facts.shortestWay(graph.near, graph.nodes, a, ends, all & ~inside, level, way);
                    }
                }
                insertWay(length);
                for (int k = 0; k < lineLength; k++) {
                    inside |= 1 << line[k];
                }
            }
        }

        private void insertWay(int length) {
            int begin = 0;
            int end = 0;
            for (int k = 0; k < lineLength && length > 0; k++) {
                begin = line[k] == way[0] ? k : begin;
                end = line[k] == way[length - 1] ? k : end;
            }
            int count = Math.max(length - 2, 0);
            if (begin < end) {
                System.arraycopy(way, 1, way, 0, count);
                replaceInLine(begin + 1, 0, count);
            } else {
                for (int k = 0; k < count; k++) {
                    level[k] = way[count - k];
                }
                System.arraycopy(level, 0, way, 0, count);
                replaceInLine(begin, 0, count);
            }
        }

        /** The longest way up to each node. */
        private void raiseNodes(Graph graph, Drawing drawing) {
            for (int k = 0; k < graph.nodes; k++) {
                int v = line[k];
                drawing.y[v] = 0;
                for (int j = 0; j < k; j++) {
                    if ((graph.near[v] >> line[j] & 1) != 0) {
                        drawing.y[v] = Math.max(drawing.y[v], drawing.y[line[j]] + 1);
                    }
                }
            }
        }

        private static int leftFace(Net embedded, int[] rank, int e) {
            boolean up = rank[embedded.tail[e]] < rank[embedded.head[e]];
            return embedded.faceOf[up ? 2 * e : 2 * e + 1];
        }

        private static int rightFace(Net embedded, int[] rank, int e) {
            boolean up = rank[embedded.tail[e]] < rank[embedded.head[e]];
            return embedded.faceOf[up ? 2 * e + 1 : 2 * e];
        }

        private void moveFaces(Graph graph, Net embedded, int[] rank) {
            Arrays.fill(faceX, NONE);
            faceX[rightFace(embedded, rank, 0)] = 0;
            boolean moved = true;
            for (int round = 0; round <= embedded.faces && moved; round++) {
                moved = false;
                for (int e = 1; e < graph.edges; e++) {
                    int left = leftFace(embedded, rank, e);
                    int right = rightFace(embedded, rank, e);
                    if (faceX[left] != NONE && faceX[right] < faceX[left] + 1) {
                        faceX[right] = faceX[left] + 1;
                        moved = true;
                    }
                }
            }
        }

        private int middleOfEdges(Graph graph, int v) {
            int least = MILLION;
            int greatest = -MILLION;
            for (int e = 0; e < graph.edges; e++) {
                if (graph.tail[e] == v || graph.head[e] == v) {
                    least = Math.min(least, edgeX[e]);
                    greatest = Math.max(greatest, edgeX[e]);
                }
            }
            return Math.floorDiv(least + greatest, 2);
        }
    }

    /** Ways 3 to 7. */
    private static final class PlainWays {
        private Graph graph = null;
        private Drawing drawing = null;
        private final int[] order = new int[MAX_NODES];
        private final int[] best = new int[MAX_NODES];
        private final int[] level = new int[MAX_NODES];
        private final int[] parent = new int[MAX_NODES];
        private final int[] under = new int[MAX_NODES];
        private final int[] kids = new int[MAX_NODES];
        private int fewest = 0;
        /** Items of a group: nodes, and groups behind them. */
        private final int[] item = new int[MAX_NODES + MAX_GROUPS];
        private final int[] itemSize = new int[MAX_NODES + MAX_GROUPS];
        private int items = 0;
        /** What is left of a rectangle: x, y, width, height. */
        private final int[] space = new int[4];
        private long shapeLong = 0;
        private long shapeShort = 1;
        private final long[] placeX = new long[MAX_NODES];
        private final long[] placeY = new long[MAX_NODES];
        private final long[] pullX = new long[MAX_NODES];
        private final long[] pullY = new long[MAX_NODES];

        int lay(int way, int a, Graph wanted, Facts facts, Drawing target) {
            graph = wanted;
            drawing = target;
            if (way == 3 && (a < NONE || a >= graph.nodes || graph.edges != graph.nodes - facts.parts)) {
                return REFUSED;
            }
            if (way == 4 && (a < MIN_AREA || a > MAX_AREA)) {
                return REFUSED;
            }
            if (way == 6 && (a < 0 || a > MAX_FORCE_STEPS)) {
                return REFUSED;
            }
            switch (way) {
                case 3: layTree(facts, a); break;
                case 4: layAreas(a); break;
                case 5: layRing(); break;
                case 6: layForces(a); break;
                default: layMatrix(); break;
            }
            drawing.dropBends();
            return 0;
        }

        private void layTree(Facts facts, int a) {
            int roots = 0;
            int ordered = 0;
            for (int p = 0; p < facts.parts; p++) {
                int root = a != NONE && facts.part[a] == p ? a : leastOfPart(facts, p);
                ordered = walkTree(root, ordered);
            }
            for (int k = ordered - 1; k >= 0; k--) {
                placeOver(order[k]);
            }
            for (int k = 0; k < ordered; k++) {
                if (parent[order[k]] == NONE) {
                    kids[roots] = order[k];
                    roots++;
                }
            }
            placeSideBySide(roots);
            int least = drawing.x[0];
            for (int v = 1; v < graph.nodes; v++) {
                least = Math.min(least, drawing.x[v]);
            }
            for (int v = 0; v < graph.nodes; v++) {
                drawing.x[v] -= least;
                drawing.y[v] = 4 * level[v];
            }
        }

        private int leastOfPart(Facts facts, int p) {
            for (int v = 0; v < graph.nodes; v++) {
                if (facts.part[v] == p) {
                    return v;
                }
            }
            return 0;
        }

        /** Puts the nodes of a tree into the order, parents ahead of children: where it ends. */
        private int walkTree(int root, int start) {
            int seen = 1 << root;
            int end = start + 1;
            order[start] = root;
            parent[root] = NONE;
            level[root] = 0;
            for (int k = start; k < end; k++) {
                int v = order[k];
                for (int w = 0; w < graph.nodes && end < MAX_NODES; w++) {
                    if ((graph.near[v] >> w & 1) != 0 && (seen >> w & 1) == 0) {
                        seen |= 1 << w;
                        parent[w] = v;
                        level[w] = level[v] + 1;
                        order[end] = w;
                        end++;
                    }
                }
            }
            return end;
        }

        private void placeOver(int v) {
            int count = 0;
            for (int w = 0; w < graph.nodes; w++) {
                if (parent[w] == v) {
                    kids[count] = w;
                    count++;
                }
            }
            under[v] = 1 << v | placeSideBySide(count);
            drawing.x[v] = count == 0 ? 0 : Math.floorDiv(drawing.x[kids[0]] + drawing.x[kids[count - 1]], 2);
        }

        /** Places the trees under the first kids; answers all nodes in them. */
        private int placeSideBySide(int count) {
            int placed = count == 0 ? 0 : under[kids[0]];
            for (int k = 1; k < count; k++) {
                int tree = under[kids[k]];
                int shift = -MILLION;
                for (int l = 0; l < MAX_NODES; l++) {
                    int right = edgeOfLevel(placed, l, true);
                    int left = edgeOfLevel(tree, l, false);
                    if (right != NO_POINT && left != NO_POINT) {
                        shift = Math.max(shift, right + TREE_GAP - left);
                    }
                }
                for (int v = 0; v < graph.nodes; v++) {
                    if ((tree >> v & 1) != 0) {
                        drawing.x[v] += shift;
                    }
                }
                placed |= tree;
            }
            return placed;
        }

        /** The greatest or the least x of a set of nodes on a level. */
        private int edgeOfLevel(int set, int l, boolean greatest) {
            int found = NO_POINT;
            for (int v = 0; v < graph.nodes; v++) {
                if ((set >> v & 1) != 0 && level[v] == l) {
                    int x = drawing.x[v];
                    if (found == NO_POINT || (greatest ? x > found : x < found)) {
                        found = x;
                    }
                }
            }
            return found;
        }

        /** A group lies in one with a lower number, so its rectangle is there when its turn comes. */
        private void layAreas(int side) {
            Arrays.fill(drawing.area, 0);
            setArea(MAX_NODES, 0, 0, side, side);
            for (int g = 0; g < graph.groups; g++) {
                if (graph.sizeOfGroup(g) > 0) {
                    gatherItems(g);
                    System.arraycopy(drawing.area, 4 * (MAX_NODES + g), space, 0, 4);
                    layRows();
                }
            }
            for (int v = 0; v < graph.nodes; v++) {
                drawing.x[v] = drawing.area[4 * v] + drawing.area[4 * v + 2] / 2;
                drawing.y[v] = drawing.area[4 * v + 1] + drawing.area[4 * v + 3] / 2;
            }
        }

        private void setArea(int i, int x, int y, int width, int height) {
            drawing.area[4 * i] = x;
            drawing.area[4 * i + 1] = y;
            drawing.area[4 * i + 2] = width;
            drawing.area[4 * i + 3] = height;
        }

        private void gatherItems(int g) {
            items = 0;
            for (int k = g + 1; k < graph.groups; k++) {
                if (graph.within[k] == g) {
                    insertItem(MAX_NODES + k, graph.sizeOfGroup(k));
                }
            }
            for (int v = 0; v < graph.nodes; v++) {
                if (graph.groupOf[v] == g) {
                    insertItem(v, graph.size[v]);
                }
            }
        }

        /** Behind all that are not smaller. */
        private void insertItem(int wanted, int size) {
            if (size == 0) {
                return;
            }
            int k = items;
            for (; k > 0 && itemSize[k - 1] < size; k--) {
                item[k] = item[k - 1];
                itemSize[k] = itemSize[k - 1];
            }
            item[k] = wanted;
            itemSize[k] = size;
            items++;
        }

        private void layRows() {
            int total = 0;
            for (int k = 0; k < items; k++) {
                total += itemSize[k];
            }
            int start = 0;
            for (int round = 0; round < MAX_NODES + MAX_GROUPS && start < items; round++) {
                int end = endOfRow(start, total);
                int sum = 0;
                for (int k = start; k < end; k++) {
                    sum += itemSize[k];
                }
                layRow(start, end, sum, total);
                total -= sum;
                start = end;
            }
        }

        private int endOfRow(int start, int total) {
            int end = start + 1;
            int sum = itemSize[start];
            findWorst(start, end, sum, total);
            for (; end < items; end++) {
                long oldLong = shapeLong;
                long oldShort = shapeShort;
                sum += itemSize[end];
                findWorst(start, end + 1, sum, total);
                if (shapeLong * oldShort > oldLong * shapeShort) {
                    break;
                }
            }
            return end;
        }

        /** The worst shape of a row. (A side is below 3 * 10^9, so that products of two fit into a long.) */
        private void findWorst(int start, int end, int sum, int total) {
            long along = Math.max(1, Math.min(space[2], space[3]));
            long across = Math.max(1, Math.max(space[2], space[3]));
            shapeLong = 0;
            shapeShort = 1;
            for (int k = start; k < end; k++) {
                long a = along * itemSize[k] * total;
                long b = across * sum * sum;
                long longer = Math.max(a, b);
                long shorter = Math.min(a, b);
                if (longer * shapeShort > shapeLong * shorter) {
                    shapeLong = longer;
                    shapeShort = shorter;
                }
            }
        }

        private void layRow(int start, int end, int sum, int total) {
            boolean top = space[2] <= space[3];
            int along = top ? space[2] : space[3];
            int across = total > 0 ? (top ? space[3] : space[2]) * sum / total : 0;
            int passed = 0;
            for (int k = start; k < end && sum > 0; k++) {
                int from = along * passed / sum;
                passed += itemSize[k];
                int to = along * passed / sum;
                if (top) {
                    setArea(item[k], space[0] + from, space[1], to - from, across);
                } else {
                    setArea(item[k], space[0], space[1] + from, across, to - from);
                }
            }
            space[top ? 1 : 0] += across;
            space[top ? 3 : 2] -= across;
        }

        private void layRing() {
            for (int k = 0; k < graph.nodes; k++) {
                order[k] = k;
                best[k] = k;
            }
            fewest = NO_LIMIT;
            if (graph.nodes <= SMALL_RING) {
                tryRing(1, 1, 0);
            } else {
                for (int k = 1; k < graph.nodes; k++) {
                    moveOnRing(k);
                }
                for (int k = 1; k < graph.nodes; k++) {
                    moveOnRing(k);
                }
                fewest = ringCrossings();
                System.arraycopy(order, 0, best, 0, graph.nodes);
            }
            drawing.crossings = fewest;
            int side = 8 * graph.nodes;
            for (int k = 0; k < graph.nodes; k++) {
                int round = 32 * k;
                int v = best[k];
                drawing.x[v] = Math.max(0, Math.min(Math.min(round, side), 3 * side - round));
                drawing.y[v] = Math.max(0, Math.min(Math.min(round - side, side), 4 * side - round));
            }
        }

        /** Tries all nodes that are missing at a place, the least first, while it can still be better. */
        private void tryRing(int place, int used, int crossings) {
            if (crossings >= fewest || place > SMALL_RING) {
                return;
            }
            if (place == graph.nodes) {
                fewest = crossings;
                System.arraycopy(order, 0, best, 0, graph.nodes);
                return;
            }
            for (int v = 1; v < graph.nodes; v++) {
                if ((used >> v & 1) == 0) {
                    order[place] = v;
                    int now = used | 1 << v;
                    tryRing(place + 1, now, crossings + crossingsAt(place, now));
                }
            }
        }

        /**
         * Crossings that close at a place: an edge back from it crosses each edge from a node
         * between its ends to one that comes later.
         */
        private int crossingsAt(int place, int used) {
            int back = graph.near[order[place]];
            int found = 0;
            int edges = 0;
            for (int k = 0; k < place; k++) {
                found += edges * Integer.bitCount(graph.near[order[k]] & ~used);
                edges += back >> order[k] & 1;
            }
            return found;
        }

        private int ringCrossings() {
            int used = 0;
            int found = 0;
            for (int k = 0; k < graph.nodes; k++) {
                used |= 1 << order[k];
                found += crossingsAt(k, used);
            }
            return found;
        }

        private void moveOnRing(int v) {
            int place = 0;
            for (int k = 0; k < graph.nodes; k++) {
                place = order[k] == v ? k : place;
            }
            for (int k = place; k > 1; k--) {
                order[k] = order[k - 1];
            }
            order[1] = v;
            int least = ringCrossings();
            int chosen = 1;
            for (int k = 2; k < graph.nodes; k++) {
                order[k - 1] = order[k];
                order[k] = v;
                int found = ringCrossings();
                if (found < least) {
                    least = found;
                    chosen = k;
                }
            }
            for (int k = graph.nodes - 1; k > chosen; k--) {
                order[k] = order[k - 1];
            }
            order[chosen] = v;
        }

        private void layForces(int rounds) {
            for (int v = 0; v < graph.nodes; v++) {
                placeX[v] = v * 37 % 64 * 64;
                placeY[v] = v * 59 % 64 * 64;
            }
            for (int k = 0; k < rounds; k++) {
                sumPulls();
                long most = 256 / (1 + k / 16);
                for (int v = 0; v < graph.nodes; v++) {
                    placeX[v] += Math.max(-most, Math.min(most, pullX[v]));
                    placeY[v] += Math.max(-most, Math.min(most, pullY[v]));
                }
            }
            for (int v = 0; v < graph.nodes; v++) {
                drawing.x[v] = (int) Math.floorDiv(placeX[v], 16L);
                drawing.y[v] = (int) Math.floorDiv(placeY[v], 16L);
            }
        }

        /** What a node does to another one, that one does to it the other way round. */
        private void sumPulls() {
            Arrays.fill(pullX, 0);
            Arrays.fill(pullY, 0);
            for (int i = 0; i < graph.nodes; i++) {
                for (int j = 0; j < i; j++) {
                    long dx = placeX[i] - placeX[j];
                    long dy = placeY[i] - placeY[j];
                    if (dx == 0 && dy == 0) {
                        dx = 1;
                    }
                    long q = dx * dx + dy * dy;
                    long px = dx * 65536 / q;
                    long py = dy * 65536 / q;
                    int e = graph.edgeBetween(i, j);
                    if (e != NONE) {
                        long s = root(q);
                        px -= dx * s / 1024 * graph.weight[e];
                        py -= dy * s / 1024 * graph.weight[e];
                    }
                    pullX[i] += px;
                    pullY[i] += py;
                    pullX[j] -= px;
                    pullY[j] -= py;
                }
            }
        }

        /** Places stay below 2^17, so the root has at most 20 bits. */
        private static long root(long q) {
            long found = 0;
            for (int bit = 20; bit >= 0; bit--) {
                long next = found + (1L << bit);
                if (next * next <= q) {
                    found = next;
                }
            }
            return found;
        }

        private void layMatrix() {
            int nodes = graph.nodes;
            int missing = (1 << nodes) - 1;
            int end = 0;
            for (int k = 0; k < nodes; k++) {
                if (k == end) {
                    order[end] = fewestNeighbours(missing);
                    missing &= ~(1 << order[end]);
                    end++;
                }
                int next = graph.near[order[k]] & missing;
                missing &= ~next;
                for (int i = 0; i < nodes && next != 0; i++) {
                    order[end] = fewestNeighbours(next);
                    next &= ~(1 << order[end]);
                    end++;
                }
            }
            for (int k = 0; k < nodes; k++) {
                drawing.x[order[k]] = 4 * (nodes - 1 - k);
                drawing.y[order[k]] = 4 * (nodes - 1 - k);
            }
            drawing.band = 0;
            for (int e = 0; e < graph.edges; e++) {
                int apart = Math.abs(drawing.x[graph.tail[e]] - drawing.x[graph.head[e]]) / 4;
                drawing.band = Math.max(drawing.band, apart);
            }
        }

        private int fewestNeighbours(int set) {
            int found = 0;
            int least = NO_LIMIT;
            for (int v = 0; v < graph.nodes; v++) {
                int neighbours = Integer.bitCount(graph.near[v]);
                if ((set >> v & 1) != 0 && neighbours < least) {
                    least = neighbours;
                    found = v;
                }
            }
            return found;
        }
    }

    /**
     * Leads an edge over whole points. Costs are found from the head on, by the state of a way that
     * has come to a point by a step; the way is then read off from the tail, the first steps first.
     */
    private static final class Router {
        private Graph graph = null;
        private Drawing drawing = null;
        private int left = 0;
        private int top = 0;
        private int width = 0;
        private int height = 0;
        private int start = 0;
        private int goal = 0;
        /** What the best way from the tail costs. */
        private int whole = 0;
        private final boolean[] barred = new boolean[MAX_GRID];
        private final int[] cost = new int[GRID_STATES];
        /** Lists of states by cost, four at a time, as no step costs more than three. */
        private final int[] list = new int[4];
        private final int[] entryState = new int[MAX_ENTRIES];
        private final int[] entryNext = new int[MAX_ENTRIES];
        private int entries = 0;
        private final int[] turnX = new int[MAX_BENDS];
        private final int[] turnY = new int[MAX_BENDS];
        private int turns = 0;

        int lead(Graph wanted, Drawing target, int e) {
            graph = wanted;
            drawing = target;
            if (!frame()) {
                return REFUSED;
            }
            int a = graph.tail[e];
            int b = graph.head[e];
            bar(a, b);
            start = pointOf(a);
            goal = pointOf(b);
            turns = 0;
            if (start != goal) {
                findCosts();
                if (whole == NO_LIMIT) {
                    return NO_WAY;
                }
                readWay();
            }
            if (turns > MAX_BENDS) {
                return TOO_MANY_BENDS;
            }
            drawing.bends[e] = 0;
            for (int k = 0; k < turns; k++) {
                drawing.addBend(e, turnX[k], turnY[k]);
            }
            return 0;
        }

        /** Finds the rectangle of points; false when there are too many. */
        private boolean frame() {
            left = NO_LIMIT;
            top = NO_LIMIT;
            int right = -NO_LIMIT;
            int bottom = -NO_LIMIT;
            for (int i = 0; i < graph.nodes; i++) {
                left = Math.min(left, drawing.x[i] - graph.half(i) - 2);
                right = Math.max(right, drawing.x[i] + graph.half(i) + 2);
                top = Math.min(top, drawing.y[i] - 3);
                bottom = Math.max(bottom, drawing.y[i] + 3);
            }
            width = right - left + 1;
            height = bottom - top + 1;
            return (long) width * height <= MAX_GRID;
        }

        private int pointOf(int i) {
            return (drawing.y[i] - top) * width + drawing.x[i] - left;
        }

        private void bar(int a, int b) {
            for (int p = 0; p < MAX_GRID; p++) {
                barred[p] = false;
            }
            for (int i = 0; i < graph.nodes; i++) {
                if (i == a || i == b) {
                    continue;
                }
                int half = graph.half(i);
                for (int dy = -1; dy <= 1; dy++) {
                    int middle = pointOf(i) + dy * width;
                    for (int p = middle - half; p <= middle + half; p++) {
                        barred[p] = true;
                    }
                }
            }
        }

        /** The point that a step leads to: right 0, down 1, left 2, up 3; NONE out of the rectangle. */
        private int next(int p, int step) {
            int column = p % width;
            switch (step) {
                case 0: return column + 1 < width ? p + 1 : NONE;
                case 1: return p + width < width * height ? p + width : NONE;
                case 2: return column > 0 ? p - 1 : NONE;
                default: return p - width >= 0 ? p - width : NONE;
            }
        }

        private void enter(int state, int price) {
            if (price < cost[state] && entries < MAX_ENTRIES) {
                cost[state] = price;
                entryState[entries] = state;
                entryNext[entries] = list[price & 3];
                list[price & 3] = entries;
                entries++;
            }
        }

        private void findCosts() {
            whole = NO_LIMIT;
            entries = 0;
            Arrays.fill(cost, NO_LIMIT);
            Arrays.fill(list, NONE);
            if (barred[goal]) {
                return;
            }
            for (int step = 0; step < 4; step++) {
                enter(4 * goal + step, 0);
            }
            int idle = 0;
            for (int price = 0; price < MILLION && price < whole && idle < 4; price++) {
                int entry = list[price & 3];
                list[price & 3] = NONE;
                idle = entry == NONE ? idle + 1 : 0;
                for (int k = 0; k < MAX_ENTRIES && entry != NONE; k++) {
                    if (cost[entryState[entry]] == price) {
                        goBack(entryState[entry], price);
                    }
                    entry = entryNext[entry];
                }
            }
        }

        /** From where a way could have come to this state, and what it costs from there. */
        private void goBack(int state, int price) {
            int step = state & 3;
            int p = next(state >> 2, step ^ 2);
            if (p == NONE) {
                return;
            }
            if (p == start) {
                whole = Math.min(whole, price + 1);
            }
            if (barred[p]) {
                return;
            }
            for (int come = 0; come < 4; come++) {
                if (come != (step ^ 2)) {
                    enter(4 * p + come, price + (come == step ? 1 : 3));
                }
            }
        }

        private void readWay() {
            int p = start;
            int come = NONE;
            int rest = whole;
            for (int k = 0; k < MAX_GRID && p != goal; k++) {
                int step = nextStep(p, come, rest);
                if (come != NONE && step != come) {
                    if (turns < MAX_BENDS) {
                        turnX[turns] = left + p % width;
                        turnY[turns] = top + p / width;
                    }
                    turns++;
                }
                p = next(p, step);
                if (p == NONE) {
                    return;
                }
                come = step;
                rest = cost[4 * p + step];
            }
        }

        private int nextStep(int p, int come, int rest) {
            for (int step = 0; step < 4; step++) {
                int q = next(p, step);
                int price = come == NONE || come == step ? 1 : 3;
                if (q != NONE && !barred[q] && cost[4 * q + step] + price == rest) {
                    return step;
                }
            }
            return 0;
        }
    }

    /** The tape, and the reader of graphs' texts on it. */
    private static final class Reader {
        final byte[] tape = new byte[MAX_TAPE];
        int length = 0;
        int fault = NONE;
        int faultPlace = NONE;
        /** What was read, when there was no fault. */
        final Graph graph = new Graph();
        private int end = 0;
        private int next = 0;
        private int kind = END;
        private int begin = 0;
        private int number = 0;
        private final int[] open = new int[MAX_DEPTH + 1];
        private int depth = 0;

        /** The caller has looked for room. */
        void append(int value) {
            for (int shift = 24; shift >= 0; shift -= 8) {
                tape[length] = (byte) (value >> shift);
                length++;
            }
        }

        boolean readGraph(int n) {
            graph.clear();
            end = n;
            next = 0;
            depth = 0;
            open[0] = 0;
            fault = 0;
            faultPlace = NONE;
            for (int k = 0; k <= n; k++) {
                advance();
                if (kind == END && depth == 0) {
                    return true;
                }
                if (!readItem()) {
                    return false;
                }
            }
            return false;
        }

        private boolean fail(int what) {
            fault = what;
            faultPlace = begin;
            return false;
        }

        private static boolean isLetter(int c) {
            return c >= 'a' && c <= 'z' || c >= 'A' && c <= 'Z';
        }

        private static boolean isDigit(int c) {
            return c >= '0' && c <= '9';
        }

        private static boolean isSign(int c) {
            return c == '{' || c == '}' || c == '[' || c == ']' || c == ';' || c == '=' || c == '-' || c == '>';
        }

        private static boolean isNameByte(int c) {
            return isLetter(c) || isDigit(c) || c == '_';
        }

        /** Goes on to the next token. */
        private void advance() {
            for (; next < end && (tape[next] == ' ' || tape[next] == '\n'); next++) {
            }
            begin = next;
            if (next >= end) {
                kind = END;
                return;
            }
            int c = tape[next];
            if (isLetter(c)) {
                for (; next < end && isNameByte(tape[next]); next++) {
                }
                kind = next - begin <= MAX_NAME ? WORD : BAD;
            } else if (isDigit(c)) {
                number = 0;
                for (; next < end && isDigit(tape[next]); next++) {
                    number = Math.min(number * 10 + tape[next] - '0', MILLION);
                }
                kind = next - begin <= 3 ? NUMBER : BAD;
            } else {
                next++;
                kind = isSign(c) ? c : BAD;
            }
        }

        private boolean isWord(String word) {
            if (kind != WORD || next - begin != word.length()) {
                return false;
            }
            for (int k = 0; k < word.length(); k++) {
                if (tape[begin + k] != word.charAt(k)) {
                    return false;
                }
            }
            return true;
        }

        private boolean isName() {
            return kind == WORD && !isWord("node") && !isWord("group");
        }

        private boolean readItem() {
            if (kind == '}' && depth > 0) {
                depth--;
                return true;
            }
            if (isWord("node")) {
                return readNode();
            }
            if (isWord("group")) {
                return readGroup();
            }
            return isName() ? readEdges() : fail(1);
        }

        /** The node of the name that stands there, a new one if need be; NONE when there is no room. */
        private int meetNode() {
            int i = graph.findNode(tape, begin, next - begin);
            if (i == NONE && graph.nodes < MAX_NODES) {
                i = graph.addNode(tape, begin, next - begin, open[depth]);
            }
            return i;
        }

        private boolean readNode() {
            advance();
            if (!isName()) {
                return fail(1);
            }
            int i = meetNode();
            if (i == NONE) {
                return fail(3);
            }
            advance();
            if (kind == '[') {
                if (!readValue("size", MAX_SIZE)) {
                    return false;
                }
                graph.size[i] = number;
                advance();
            }
            return kind == ';' || fail(1);
        }

        private boolean readGroup() {
            if (graph.groups >= MAX_GROUPS || depth >= MAX_DEPTH) {
                return fail(3);
            }
            advance();
            if (!isName()) {
                return fail(1);
            }
            int i = graph.groups;
            graph.within[i] = open[depth];
            graph.groupNameLength[i] = next - begin;
            System.arraycopy(tape, begin, graph.groupName, i * MAX_NAME, next - begin);
            graph.groups++;
            depth++;
            open[depth] = i;
            advance();
            return kind == '{' || fail(1);
        }

        private boolean readEdges() {
            int a = meetNode();
            if (a == NONE) {
                return fail(3);
            }
            int first = graph.edges;
            advance();
            if (kind != '-' && kind != '>') {
                return fail(1);
            }
            for (int k = 0; k <= MAX_EDGES && (kind == '-' || kind == '>'); k++) {
                int way = kind == '>' ? 1 : 0;
                advance();
                if (!isName()) {
                    return fail(1);
                }
                int b = meetNode();
                if (b != NONE && (a == b || graph.edgeBetween(a, b) != NONE)) {
                    return fail(2);
                }
                if (b == NONE || graph.edges >= MAX_EDGES) {
                    return fail(3);
                }
                graph.addEdge(a, b, way);
                a = b;
                advance();
            }
            if (kind == '[') {
                if (!readValue("weight", MAX_WEIGHT)) {
                    return false;
                }
                for (int e = first; e < graph.edges; e++) {
                    graph.weight[e] = number;
                }
                advance();
            }
            return kind == ';' || fail(1);
        }

        /** One word with its number; as there is no other word, a second one is a fault always. */
        private boolean readValue(String word, int most) {
            advance();
            if (kind != WORD) {
                return fail(1);
            }
            if (!isWord(word)) {
                return fail(4);
            }
            advance();
            if (kind != '=') {
                return fail(1);
            }
            advance();
            if (kind != NUMBER) {
                return fail(1);
            }
            if (number < 1 || number > most) {
                return fail(5);
            }
            advance();
            if (kind == WORD) {
                return fail(4);
            }
            return kind == ']' || fail(1);
        }
    }

    /** Compiles styles to steps of a stack of numbers, and works them out. */
    private static final class Styler {
        int rules = 0;
        int fault = 0;
        int faultPlace = NONE;
        private byte[] bytes = null;
        private int end = 0;
        private int next = 0;
        private int kind = END;
        private int begin = 0;
        private int number = 0;
        /** The words that may stand in the rule at hand. */
        private String words = NODE_WORDS;
        private final int[] code = new int[MAX_CODE];
        private int codeLength = 0;
        private final int[] ruleStart = new int[MAX_RULES + 1];
        private final int[] ruleKind = new int[MAX_RULES];
        private final long[] stack = new long[MAX_STACK];
        private int height = 0;
        private final long[] value = new long[MAX_WORDS];

        boolean compile(byte[] tape, int n) {
            bytes = tape;
            end = n;
            next = 0;
            rules = 0;
            codeLength = 0;
            fault = 0;
            faultPlace = NONE;
            advance();
            for (int k = 0; k < MAX_RULES && kind != END; k++) {
                if (!compileRule()) {
                    return false;
                }
            }
            ruleStart[rules] = codeLength;
            return true;
        }

        private boolean fail(int what) {
            fault = what;
            faultPlace = begin;
            return false;
        }

        private static boolean isSmall(int c) {
            return c >= 'a' && c <= 'z';
        }

        private void advance() {
            for (; next < end && (bytes[next] == ' ' || bytes[next] == '\n'); next++) {
            }
            begin = next;
            if (next >= end) {
                kind = END;
                return;
            }
            int c = bytes[next];
            if (isSmall(c)) {
                for (; next < end && isSmall(bytes[next]); next++) {
                }
                kind = next - begin <= MAX_NAME ? WORD : BAD;
            } else if (Reader.isDigit(c)) {
                number = 0;
                for (; next < end && Reader.isDigit(bytes[next]); next++) {
                    number = Math.min(number * 10 + bytes[next] - '0', MILLION);
                }
                kind = next - begin <= 4 ? NUMBER : BAD;
            } else {
                next++;
                kind = c > 0 && SIGNS.indexOf((char) c) >= 0 ? c : BAD;
            }
        }

        /** The number of the word that stands there among some words with a blank behind each. */
        private int wordIn(String list) {
            int index = 0;
            int start = 0;
            for (int k = 0; k < list.length() && kind == WORD; k++) {
                if (list.charAt(k) == ' ') {
                    if (isWordAt(list, start, k)) {
                        return index;
                    }
                    index++;
                    start = k + 1;
                }
            }
            return NONE;
        }

        private boolean isWordAt(String list, int start, int stop) {
            if (next - begin != stop - start) {
                return false;
            }
            for (int k = start; k < stop; k++) {
                if (list.charAt(k) != bytes[begin + k - start]) {
                    return false;
                }
            }
            return true;
        }

        private void emit(int what, int with) {
            if (codeLength < MAX_CODE) {
                code[codeLength] = what << 16 | with;
                codeLength++;
            }
        }

        private boolean compileRule() {
            int which = wordIn("node edge ");
            if (which == NONE) {
                return fail(1);
            }
            words = which == 0 ? NODE_WORDS : EDGE_WORDS;
            ruleKind[rules] = which;
            ruleStart[rules] = codeLength;
            rules++;
            advance();
            if (wordIn("if ") == NONE) {
                return fail(1);
            }
            advance();
            if (!compileTest(0)) {
                return false;
            }
            if (kind != ':') {
                return fail(1);
            }
            emit(UNLESS, 0);
            for (int k = 0; k < MAX_TAPE && (k == 0 || kind == ','); k++) {
                if (!compileSetting()) {
                    return false;
                }
            }
            if (kind != ';') {
                return fail(1);
            }
            advance();
            return true;
        }

        private boolean compileSetting() {
            advance();
            int which = wordIn("color width form ");
            if (which == NONE) {
                return fail(1);
            }
            advance();
            if (kind != '=') {
                return fail(1);
            }
            advance();
            if (!compileSum(0)) {
                return false;
            }
            emit(SET, which);
            return true;
        }

        private boolean compileTest(int depth) {
            if (!compileBoth(depth)) {
                return false;
            }
            for (int k = 0; k < MAX_TAPE && wordIn("or ") == 0; k++) {
                advance();
                if (!compileBoth(depth)) {
                    return false;
                }
                emit(OR, 0);
            }
            return true;
        }

        private boolean compileBoth(int depth) {
            if (!compileOne(depth)) {
                return false;
            }
            for (int k = 0; k < MAX_TAPE && wordIn("and ") == 0; k++) {
                advance();
                if (!compileOne(depth)) {
                    return false;
                }
                emit(AND, 0);
            }
            return true;
        }

        private boolean compileOne(int depth) {
            boolean not = wordIn("not ") == 0;
            if (not || kind == '{') {
                if (depth >= MAX_OPEN) {
                    return fail(2);
                }
                advance();
                if (not) {
                    boolean good = compileOne(depth + 1);
                    emit(NOT, 0);
                    return good;
                }
                if (!compileTest(depth + 1)) {
                    return false;
                }
                return closes('}');
            }
            if (!compileSum(depth)) {
                return false;
            }
            int sign = kind;
            if (sign != '<' && sign != '=' && sign != '>') {
                return fail(1);
            }
            advance();
            boolean good = compileSum(depth);
            emit(sign == '<' ? LESS : sign == '=' ? EQUAL : MORE, 0);
            return good;
        }

        private boolean closes(int sign) {
            if (kind != sign) {
                return fail(1);
            }
            advance();
            return true;
        }

        private boolean compileSum(int depth) {
            if (!compileProduct(depth)) {
                return false;
            }
            for (int k = 0; k < MAX_TAPE && (kind == '+' || kind == '-'); k++) {
                int what = kind == '+' ? ADD : SUBTRACT;
                advance();
                if (!compileProduct(depth)) {
                    return false;
                }
                emit(what, 0);
            }
            return true;
        }

        private boolean compileProduct(int depth) {
            if (!compileValue(depth)) {
                return false;
            }
            for (int k = 0; k < MAX_TAPE && (kind == '*' || kind == '/'); k++) {
                int what = kind == '*' ? MULTIPLY : DIVIDE;
                advance();
                if (!compileValue(depth)) {
                    return false;
                }
                emit(what, 0);
            }
            return true;
        }

        private boolean compileValue(int depth) {
            if (kind == '(') {
                if (depth >= MAX_OPEN) {
                    return fail(2);
                }
                advance();
                return compileSum(depth + 1) && closes(')');
            }
            int which = wordIn(words);
            if (kind != NUMBER && which == NONE) {
                return fail(1);
            }
            emit(kind == NUMBER ? PUSH : LOAD, kind == NUMBER ? number : which);
            advance();
            return true;
        }

        void apply(Graph graph, Facts facts, Drawing drawing) {
            Arrays.fill(drawing.shades, 0);
            for (int i = 0; i < graph.nodes; i++) {
                lookAtNode(graph, facts, drawing, i);
                runRules(0, drawing.shades, 3 * i);
            }
            for (int e = 0; e < graph.edges; e++) {
                lookAtEdge(graph, facts, drawing, e);
                runRules(1, drawing.shades, 3 * (MAX_NODES + e));
            }
        }

        /** The values of the words of nodes, in their order. */
        private void lookAtNode(Graph graph, Facts facts, Drawing drawing, int i) {
            int in = 0;
            int out = 0;
            for (int e = 0; e < graph.edges; e++) {
                in += graph.head[e] == i ? 1 : 0;
                out += graph.tail[e] == i ? 1 : 0;
            }
            boolean drawn = drawing.way != NONE;
            value[0] = Integer.bitCount(graph.near[i]);
            value[1] = in;
            value[2] = out;
            value[3] = graph.size[i];
            value[4] = graph.groupOf[i];
            value[5] = graph.distance(0, i);
            value[6] = facts.core[i];
            value[7] = facts.blocksAt[i] > 1 ? 1 : 0;
            value[8] = drawn ? drawing.x[i] : 0;
            value[9] = drawn ? drawing.y[i] : 0;
        }

        /** The values of the words of edges, in their order. */
        private void lookAtEdge(Graph graph, Facts facts, Drawing drawing, int e) {
            int a = graph.tail[e];
            int b = graph.head[e];
            int distance = Math.abs(drawing.x[a] - drawing.x[b]) + Math.abs(drawing.y[a] - drawing.y[b]);
            value[0] = graph.weight[e];
            value[1] = facts.turned[e] ? 1 : 0;
            value[2] = facts.isBridge(e) ? 1 : 0;
            value[3] = a;
            value[4] = b;
            value[5] = facts.block[e];
            value[6] = drawing.way != NONE ? distance : 0;
            value[7] = graph.oneWay[e];
        }

        private void runRules(int which, int[] shades, int start) {
            for (int r = 0; r < rules; r++) {
                if (ruleKind[r] != which) {
                    continue;
                }
                height = 0;
                for (int k = ruleStart[r]; k < ruleStart[r + 1]; k++) {
                    int what = code[k] >> 16;
                    int with = code[k] & 65535;
                    if (what == UNLESS) {
                        if (pop() == 0) {
                            break;
                        }
                    } else if (what == SET) {
                        shades[start + with] = (int) Math.max(0, Math.min(255, pop()));
                    } else {
                        run(what, with);
                    }
                }
            }
        }

        private void push(long what) {
            if (height < MAX_STACK) {
                stack[height] = what;
                height++;
            }
        }

        private long pop() {
            if (height == 0) {
                return 0;
            }
            height--;
            return stack[height];
        }

        private void run(int what, int with) {
            if (what == PUSH) {
                push(with);
            } else if (what == LOAD) {
                push(with < MAX_WORDS ? value[with] : 0);
            } else if (what == NOT) {
                push(pop() == 0 ? 1 : 0);
            } else {
                long b = pop();
                long a = pop();
                push(join(what, a, b));
            }
        }

        private static long join(int what, long a, long b) {
            switch (what) {
                case ADD: return a + b;
                case SUBTRACT: return a - b;
                case MULTIPLY: return a * b;
                case DIVIDE: return b == 0 ? 0 : Math.floorDiv(a, b);
                case LESS: return a < b ? 1 : 0;
                case EQUAL: return a == b ? 1 : 0;
                case MORE: return a > b ? 1 : 0;
                case AND: return a & b;
                default: return a | b;
            }
        }
    }
}
