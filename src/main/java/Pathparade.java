import java.util.Arrays;
import java.util.NoSuchElementException;

/**
 * A library of next shortest paths in a directed network with positive lengths.
 *
 * Rows are read and written by at() and put() alone, so that no index goes unlooked at. All rows are made
 * with the object and used again, so that no call needs room of its own.
 */
public final class Pathparade {
    private static final int LEAST_NODES = 2;
    private static final int MOST_NODES = 10;
    private static final int MOST_EDGES = 24;
    private static final int MOST_LENGTH = 1000;
    private static final int MOST_COUNTED = 100000;
    private static final int MOST_WALKS = 50;
    private static final int MOST_DISJOINT = 4;

    /** Stands where there is no edge. */
    private static final int NONE = -1;

    /** The length of a way that does not exist: above every real one, yet so far below an int's end that two add up. */
    private static final int ENDLESS = 1000000000;

    private final Network network;
    private final Distances distances;
    private final PathDraw paths;
    private final PathCount pathCount;
    private final WalkDraw walks;
    private final DisjointFlow disjoint;
    private final AllowedWalk allowed;
    private boolean pathsStarted;
    private boolean walksStarted;

    public Pathparade() {
        Network made = new Network();
        network = made;
        distances = new Distances(made);
        paths = new PathDraw(made);
        pathCount = new PathCount(made);
        walks = new WalkDraw(made);
        disjoint = new DisjointFlow(made);
        allowed = new AllowedWalk(made);
    }

    // ---- the network

    public void begin(int nodes) throws IllegalArgumentException {
        requireRange(nodes, LEAST_NODES, MOST_NODES);
        network.clear(nodes);
        endDraws();
    }

    public int addEdge(int from, int to, int length) throws IllegalArgumentException, IllegalStateException {
        requireTwoNodes(from, to);
        requireRange(length, 1, MOST_LENGTH);
        if (!network.hasRoom()) {
            throw new IllegalStateException("the network has all its edges");
        }
        endDraws();
        return network.append(from, to, length);
    }

    public int setLength(int edge, int length) throws IllegalArgumentException {
        requireEdge(edge);
        requireRange(length, 1, MOST_LENGTH);
        endDraws();
        return network.changeLength(edge, length);
    }

    public boolean toggleEdge(int edge) throws IllegalArgumentException {
        requireEdge(edge);
        endDraws();
        return network.switchEdge(edge);
    }

    public boolean toggleNode(int node) throws IllegalArgumentException {
        requireNodes(node, node);
        endDraws();
        return network.switchNode(node);
    }

    public boolean toggleTurn(int first, int second) throws IllegalArgumentException {
        requireEdge(first);
        requireEdge(second);
        if (network.headOf(first) != network.tailOf(second)) {
            throw new IllegalArgumentException("the second edge does not begin where the first one ends");
        }
        return network.switchTurn(first, second);
    }

    public int nodes() {
        return network.nodeTotal();
    }

    public int edges() {
        return network.edgeTotal();
    }

    public int usableEdges() {
        return network.usableTotal();
    }

    public int distance(int from, int to) throws IllegalArgumentException, NoSuchElementException {
        requireNodes(from, to);
        distances.measureTo(to);
        return requireWay(distances.ofNode(from));
    }

    // ---- paths

    public void startPaths(int from, int to) throws IllegalArgumentException {
        requireTwoNodes(from, to);
        paths.restart(from, to);
        pathsStarted = true;
    }

    public int nextPath() throws IllegalStateException, NoSuchElementException {
        requireStarted(pathsStarted);
        if (!paths.advance()) {
            throw new NoSuchElementException("all paths have been drawn");
        }
        return paths.currentLength();
    }

    public int pathsDrawn() throws IllegalStateException {
        requireStarted(pathsStarted);
        return paths.drawnTotal();
    }

    public int pathEdges() throws IllegalStateException, NoSuchElementException {
        requireStarted(pathsStarted);
        requireDrawn(paths.drawnTotal());
        return paths.currentSize();
    }

    public int pathEdge(int place) throws IllegalStateException, NoSuchElementException {
        requireStarted(pathsStarted);
        requireDrawn(paths.drawnTotal());
        return requireListed(paths.currentEdge(place));
    }

    public int countPaths(int from, int to, int length) throws IllegalArgumentException {
        requireTwoNodes(from, to);
        requireRange(length, 0, MOST_COUNTED);
        return pathCount.upTo(from, to, length);
    }

    // ---- walks

    public void startWalks(int from, int to) throws IllegalArgumentException {
        requireNodes(from, to);
        walks.restart(from, to);
        walksStarted = true;
    }

    public int nextWalk() throws IllegalStateException, NoSuchElementException {
        requireStarted(walksStarted);
        if (walks.drawnTotal() >= MOST_WALKS) {
            throw new IllegalStateException("no more walks are drawn from one start");
        }
        if (!walks.advance()) {
            throw new NoSuchElementException("all walks have been drawn");
        }
        return walks.currentLength();
    }

    public int walksDrawn() throws IllegalStateException {
        requireStarted(walksStarted);
        return walks.drawnTotal();
    }

    public int walkEdges() throws IllegalStateException, NoSuchElementException {
        requireStarted(walksStarted);
        requireDrawn(walks.drawnTotal());
        return walks.currentSize();
    }

    public int walkEdge(int place) throws IllegalStateException, NoSuchElementException {
        requireStarted(walksStarted);
        requireDrawn(walks.drawnTotal());
        return requireListed(walks.currentEdge(place));
    }

    // ---- disjoint paths

    public int disjointPaths(int from, int to, boolean apart) throws IllegalArgumentException {
        requireTwoNodes(from, to);
        return disjoint.pathTotal(from, to, apart);
    }

    public int disjointLength(int from, int to, int paths, boolean apart)
            throws IllegalArgumentException, NoSuchElementException {
        requireTwoNodes(from, to);
        requireRange(paths, 1, MOST_DISJOINT);
        return requireWay(disjoint.leastLength(from, to, paths, apart));
    }

    // ---- allowed walks

    public int allowedLength(int from, int to) throws IllegalArgumentException, NoSuchElementException {
        requireNodes(from, to);
        return requireWay(allowed.find(from, to));
    }

    public int allowedEdges(int from, int to) throws IllegalArgumentException, NoSuchElementException {
        requireNodes(from, to);
        requireWay(allowed.find(from, to));
        return allowed.foundSize();
    }

    public int allowedEdge(int from, int to, int place) throws IllegalArgumentException, NoSuchElementException {
        requireNodes(from, to);
        requireWay(allowed.find(from, to));
        return requireListed(allowed.foundEdge(place));
    }

    // ---- what the calls have in common

    private void endDraws() {
        pathsStarted = false;
        walksStarted = false;
    }

    private void requireNodes(int from, int to) {
        if (!network.hasNode(from) || !network.hasNode(to)) {
            throw new IllegalArgumentException("no such node");
        }
    }

    private void requireTwoNodes(int from, int to) {
        requireNodes(from, to);
        if (from == to) {
            throw new IllegalArgumentException("the nodes are the same");
        }
    }

    private void requireEdge(int edge) {
        if (!network.hasEdge(edge)) {
            throw new IllegalArgumentException("no such edge");
        }
    }

    private static void requireRange(int number, int least, int most) {
        if (number < least || number > most) {
            throw new IllegalArgumentException("a number is out of range");
        }
    }

    private static void requireStarted(boolean started) {
        if (!started) {
            throw new IllegalStateException("not started since the network was changed");
        }
    }

    private static void requireDrawn(int drawn) {
        if (drawn == 0) {
            throw new NoSuchElementException("none has been drawn since the start");
        }
    }

    private static int requireListed(int edge) {
        if (edge == NONE) {
            throw new NoSuchElementException("it has no such edge");
        }
        return edge;
    }

    private static int requireWay(int length) {
        if (length >= ENDLESS) {
            throw new NoSuchElementException("there is no such way");
        }
        return length;
    }

    private static int at(int[] row, int place) {
        return place >= 0 && place < row.length ? row[place] : 0;
    }

    private static void put(int[] row, int place, int value) {
        if (place >= 0 && place < row.length) {
            row[place] = value;
        }
    }

    private static long at(long[] row, int place) {
        return place >= 0 && place < row.length ? row[place] : 0L;
    }

    private static void put(long[] row, int place, long value) {
        if (place >= 0 && place < row.length) {
            row[place] = value;
        }
    }

    private static boolean hasBit(int bits, int place) {
        return ((bits >>> place) & 1) != 0;
    }

    /** The nodes, the edges, and what is closed or forbidden of them. */
    private static final class Network {
        private final int[] tails = new int[MOST_EDGES];
        private final int[] heads = new int[MOST_EDGES];
        private final int[] lengths = new int[MOST_EDGES];
        /** For each edge a bit for each edge with which it makes a forbidden turn. */
        private final int[] forbidden = new int[MOST_EDGES];
        /** The usable edges ordered by the node at which they begin, so that a search looks at no others. */
        private final int[] outEdges = new int[MOST_EDGES];
        /** For each node the place of its first edge in outEdges; the next node's is where its edges end. */
        private final int[] outStarts = new int[MOST_NODES + 1];
        private int nodeTotal = LEAST_NODES;
        private int edgeTotal;
        private int closedNodes;
        private int closedEdges;

        void clear(int total) {
            nodeTotal = total;
            edgeTotal = 0;
            closedNodes = 0;
            closedEdges = 0;
            Arrays.fill(forbidden, 0);
            listOutEdges();
        }

        int append(int from, int to, int length) {
            int edge = edgeTotal;
            put(tails, edge, from);
            put(heads, edge, to);
            put(lengths, edge, length);
            edgeTotal++;
            listOutEdges();
            return edge;
        }

        int changeLength(int edge, int length) {
            int before = lengthOf(edge);
            put(lengths, edge, length);
            return before;
        }

        boolean switchEdge(int edge) {
            closedEdges ^= 1 << edge;
            listOutEdges();
            return hasBit(closedEdges, edge);
        }

        boolean switchNode(int node) {
            closedNodes ^= 1 << node;
            listOutEdges();
            return hasBit(closedNodes, node);
        }

        boolean switchTurn(int first, int second) {
            put(forbidden, first, at(forbidden, first) ^ (1 << second));
            return isForbidden(first, second);
        }

        private void listOutEdges() {
            int listed = 0;
            for (int node = 0; node < MOST_NODES; node++) {
                put(outStarts, node, listed);
                for (int edge = 0; edge < edgeTotal; edge++) {
                    if (tailOf(edge) == node && isUsable(edge)) {
                        put(outEdges, listed, edge);
                        listed++;
                    }
                }
            }
            put(outStarts, MOST_NODES, listed);
        }

        private boolean isUsable(int edge) {
            boolean endClosed = hasBit(closedNodes, tailOf(edge)) || hasBit(closedNodes, headOf(edge));
            return !endClosed && !hasBit(closedEdges, edge);
        }

        boolean hasNode(int node) {
            return node >= 0 && node < nodeTotal;
        }

        boolean hasEdge(int edge) {
            return edge >= 0 && edge < edgeTotal;
        }

        boolean hasRoom() {
            return edgeTotal < MOST_EDGES;
        }

        boolean isForbidden(int first, int second) {
            return hasBit(at(forbidden, first), second);
        }

        int nodeTotal() {
            return nodeTotal;
        }

        int edgeTotal() {
            return edgeTotal;
        }

        int usableTotal() {
            return at(outStarts, MOST_NODES);
        }

        int tailOf(int edge) {
            return at(tails, edge);
        }

        int headOf(int edge) {
            return at(heads, edge);
        }

        int lengthOf(int edge) {
            return at(lengths, edge);
        }

        /** A usable edge; those of a node stand from outStart(node) up to before outEnd(node), in their order. */
        int outEdge(int place) {
            return at(outEdges, place);
        }

        int outStart(int node) {
            return at(outStarts, node);
        }

        int outEnd(int node) {
            return at(outStarts, node + 1);
        }
    }

    /** The lengths of the shortest walks to a node. */
    private static final class Distances {
        private final Network network;
        private final int[] lengths = new int[MOST_NODES];

        Distances(Network network) {
            this.network = network;
        }

        void measureTo(int to) {
            Arrays.fill(lengths, ENDLESS);
            put(lengths, to, 0);
            boolean shortened = true;
            // A shortest walk has fewer edges than there are nodes, so as many rounds settle all of them.
            for (int round = 0; round < MOST_NODES && shortened; round++) {
                shortened = shortenAll();
            }
        }

        private boolean shortenAll() {
            boolean shortened = false;
            for (int place = 0; place < network.usableTotal(); place++) {
                int edge = network.outEdge(place);
                int length = network.lengthOf(edge) + ofNode(network.headOf(edge));
                if (length < ofNode(network.tailOf(edge))) {
                    put(lengths, network.tailOf(edge), length);
                    shortened = true;
                }
            }
            return shortened;
        }

        int ofNode(int node) {
            return at(lengths, node);
        }
    }

    /**
     * Draws paths. A path is held as one number, its length ahead of its edges, the first edge foremost: so the order
     * of the paths is the order of their numbers. An edge's slot holds its number and 1, so that 0 means no edge; the
     * empty slots behind a path decide nothing, as no path is the beginning of another one of equal length.
     */
    private static final class PathDraw {
        private static final int SLOT_BITS = 5;
        private static final int SLOT_MASK = 31;
        private static final int SLOTS = MOST_NODES - 1;
        private static final int LENGTH_SHIFT = SLOTS * SLOT_BITS;
        private static final int PAGE = 16;

        private final Network network;
        private final Distances distances;
        /** The next paths in their order: a search for several at once costs hardly more than a search for one. */
        private final long[] page = new long[PAGE];
        private int pageSize;
        private int pageNext;
        private int from;
        private int to;
        private int drawn;
        /** The path that was drawn last, or 0, which stands before all paths. */
        private long current;

        PathDraw(Network network) {
            this.network = network;
            this.distances = new Distances(network);
        }

        void restart(int first, int last) {
            from = first;
            to = last;
            drawn = 0;
            current = 0L;
            pageSize = 0;
            pageNext = 0;
        }

        boolean advance() {
            if (pageNext >= pageSize) {
                turnPage();
            }
            if (pageNext >= pageSize) {
                return false;
            }
            current = at(page, pageNext);
            pageNext++;
            drawn++;
            return true;
        }

        private void turnPage() {
            pageSize = 0;
            pageNext = 0;
            distances.measureTo(to);
            explore(this, from, 1 << from, 0L, 0);
        }

        private static void explore(PathDraw draw, int node, int visited, long begun, int depth) {
            if (depth >= SLOTS) {
                return;
            }
            Network network = draw.network;
            for (int place = network.outStart(node); place < network.outEnd(node); place++) {
                int edge = network.outEdge(place);
                int next = network.headOf(edge);
                long longer = begun + ofLength(network.lengthOf(edge)) + ((edge + 1L) << slotShift(depth));
                if (next == draw.to) {
                    draw.keep(longer);
                } else if (!hasBit(visited, next) && draw.leadsOn(next, longer)) {
                    explore(draw, next, visited | (1 << next), longer, depth + 1);
                }
            }
        }

        private boolean leadsOn(int node, long begun) {
            int distance = distances.ofNode(node);
            return distance < ENDLESS && fits(begun + ofLength(distance));
        }

        private boolean fits(long path) {
            return pageSize < PAGE || path < at(page, PAGE - 1);
        }

        private void keep(long path) {
            if (path <= current || !fits(path)) {
                return;
            }
            int place = Math.min(pageSize, PAGE - 1);
            while (place > 0 && at(page, place - 1) > path) {
                put(page, place, at(page, place - 1));
                place--;
            }
            put(page, place, path);
            pageSize = Math.min(pageSize + 1, PAGE);
        }

        private static long ofLength(int length) {
            return (long) length << LENGTH_SHIFT;
        }

        private static int slotShift(int place) {
            return (SLOTS - 1 - place) * SLOT_BITS;
        }

        int drawnTotal() {
            return drawn;
        }

        int currentLength() {
            return (int) (current >>> LENGTH_SHIFT);
        }

        int currentEdge(int place) {
            if (place < 0 || place >= SLOTS) {
                return NONE;
            }
            return (int) ((current >>> slotShift(place)) & SLOT_MASK) - 1;
        }

        int currentSize() {
            int size = 0;
            while (size < SLOTS && currentEdge(size) != NONE) {
                size++;
            }
            return size;
        }
    }

    /** Counts paths up to a length. */
    private static final class PathCount {
        private final Network network;
        private final Distances distances;
        private int to;

        PathCount(Network network) {
            this.network = network;
            this.distances = new Distances(network);
        }

        int upTo(int first, int last, int length) {
            to = last;
            distances.measureTo(last);
            return countFrom(this, first, 1 << first, length, 0);
        }

        private static int countFrom(PathCount count, int node, int visited, int left, int depth) {
            if (depth >= MOST_NODES - 1) {
                return 0;
            }
            Network network = count.network;
            int total = 0;
            for (int place = network.outStart(node); place < network.outEnd(node); place++) {
                int edge = network.outEdge(place);
                int next = network.headOf(edge);
                int rest = left - network.lengthOf(edge);
                if (hasBit(visited, next) || count.distances.ofNode(next) > rest) {
                    continue;
                }
                total += next == count.to ? 1 : countFrom(count, next, visited | (1 << next), rest, depth + 1);
            }
            return total;
        }
    }

    /**
     * Draws walks. For each node the first walks from it to the last node are listed, in their order. Each walk but the
     * one without edges is an edge and a listed walk from where this edge ends, so walks share what follows, and of
     * walks of equal length from a node the first edge, and then the order of the listed walks, decides.
     */
    private static final class WalkDraw {
        private static final int ENTRIES = MOST_NODES * MOST_WALKS;

        private final Network network;
        private final int[] lengths = new int[ENTRIES];
        private final int[] sizes = new int[ENTRIES];
        private final int[] firstEdges = new int[ENTRIES];
        /** The entries of what follows the first edges. */
        private final int[] rests = new int[ENTRIES];
        private final int[] listed = new int[MOST_NODES];
        /** For each edge, how many of the walks listed where it ends it has been put ahead of. */
        private final int[] used = new int[MOST_EDGES];
        private int from;
        private int drawn;

        WalkDraw(Network network) {
            this.network = network;
        }

        void restart(int first, int last) {
            from = first;
            drawn = 0;
            Arrays.fill(listed, 0);
            Arrays.fill(used, 0);
            list(last, 0, 0, NONE, 0);
        }

        boolean advance() {
            // Each step lists a walk, so no more steps are needed than there are entries.
            for (int step = 0; step < ENTRIES && at(listed, from) <= drawn; step++) {
                int edge = shortestEdge();
                if (edge == NONE) {
                    return false;
                }
                putAhead(edge);
            }
            drawn++;
            return true;
        }

        /**
         * The edge that begins the shortest walk not listed yet. All shorter walks are listed then, so of the walks of
         * this length none is missing, and the lowest edge of them goes first.
         */
        private int shortestEdge() {
            int shortest = NONE;
            int least = ENDLESS;
            for (int place = 0; place < network.usableTotal(); place++) {
                int edge = network.outEdge(place);
                int head = network.headOf(edge);
                if (at(used, edge) >= at(listed, head) || at(listed, network.tailOf(edge)) >= MOST_WALKS) {
                    continue;
                }
                int length = network.lengthOf(edge) + at(lengths, entry(head, at(used, edge)));
                if (length < least) {
                    least = length;
                    shortest = edge;
                }
            }
            return shortest;
        }

        private void putAhead(int edge) {
            int rest = entry(network.headOf(edge), at(used, edge));
            int length = network.lengthOf(edge) + at(lengths, rest);
            put(used, edge, at(used, edge) + 1);
            list(network.tailOf(edge), length, at(sizes, rest) + 1, edge, rest);
        }

        private void list(int node, int length, int size, int firstEdge, int rest) {
            int entry = entry(node, at(listed, node));
            put(lengths, entry, length);
            put(sizes, entry, size);
            put(firstEdges, entry, firstEdge);
            put(rests, entry, rest);
            put(listed, node, at(listed, node) + 1);
        }

        private static int entry(int node, int rank) {
            return node * MOST_WALKS + rank;
        }

        private int currentEntry() {
            return entry(from, drawn - 1);
        }

        int drawnTotal() {
            return drawn;
        }

        int currentLength() {
            return at(lengths, currentEntry());
        }

        int currentSize() {
            return at(sizes, currentEntry());
        }

        int currentEdge(int place) {
            if (place < 0 || place >= currentSize()) {
                return NONE;
            }
            int entry = currentEntry();
            for (int passed = 0; passed < place; passed++) {
                entry = at(rests, entry);
            }
            return at(firstEdges, entry);
        }
    }

    /**
     * Finds disjoint paths as a cheapest flow. Each node is two points, one where edges end and one where they begin,
     * with an arc between them that carries as many paths as may pass the node; the edges are the other arcs. As
     * lengths are positive, a cheapest flow is made of paths alone.
     */
    private static final class DisjointFlow {
        private static final int POINTS = 2 * MOST_NODES;
        private static final int ARCS = MOST_EDGES + MOST_NODES;

        private final Network network;
        private final int[] tails = new int[ARCS];
        private final int[] heads = new int[ARCS];
        private final int[] lengths = new int[ARCS];
        /** How many paths an arc can carry, and how many it carries. */
        private final int[] rooms = new int[ARCS];
        private final int[] flows = new int[ARCS];
        /** For each point the least cost at which it is reached, and the arc by which it is reached then. */
        private final int[] costs = new int[POINTS];
        private final int[] arcs = new int[POINTS];
        private int source;
        private int target;

        DisjointFlow(Network network) {
            this.network = network;
        }

        int pathTotal(int from, int to, boolean apart) {
            layArcs(from, to, apart);
            int total = 0;
            while (total < MOST_EDGES && addPath() < ENDLESS) {
                total++;
            }
            return total;
        }

        int leastLength(int from, int to, int total, boolean apart) {
            layArcs(from, to, apart);
            int length = 0;
            for (int path = 0; path < total && length < ENDLESS; path++) {
                length += addPath();
            }
            return length;
        }

        private void layArcs(int from, int to, boolean apart) {
            source = pointBehind(from);
            target = pointBefore(to);
            Arrays.fill(flows, 0);
            Arrays.fill(rooms, 0);
            for (int place = 0; place < network.usableTotal(); place++) {
                int edge = network.outEdge(place);
                layArc(edge, pointBehind(network.tailOf(edge)), pointBefore(network.headOf(edge)), 1);
                put(lengths, edge, network.lengthOf(edge));
            }
            for (int node = 0; node < MOST_NODES; node++) {
                // A path passes neither of its ends.
                int room = node == from || node == to ? 0 : apart ? 1 : MOST_EDGES;
                layArc(MOST_EDGES + node, pointBefore(node), pointBehind(node), room);
            }
        }

        private void layArc(int arc, int tail, int head, int room) {
            put(tails, arc, tail);
            put(heads, arc, head);
            put(rooms, arc, room);
        }

        private static int pointBefore(int node) {
            return 2 * node;
        }

        private static int pointBehind(int node) {
            return 2 * node + 1;
        }

        /** Adds a path in the cheapest way; answers by how much the sum of the lengths grows. */
        private int addPath() {
            Arrays.fill(costs, ENDLESS);
            put(costs, source, 0);
            boolean cheaper = true;
            for (int round = 0; round < POINTS && cheaper; round++) {
                cheaper = cheapenAll();
            }
            int cost = at(costs, target);
            if (cost < ENDLESS) {
                send();
            }
            return cost;
        }

        private boolean cheapenAll() {
            boolean cheaper = false;
            for (int arc = 0; arc < ARCS; arc++) {
                int tail = at(tails, arc);
                int head = at(heads, arc);
                if (at(flows, arc) < at(rooms, arc)) {
                    cheaper = reach(head, tail, at(lengths, arc), arc) || cheaper;
                }
                // Against its direction an arc gives back what it carries.
                if (at(flows, arc) > 0) {
                    cheaper = reach(tail, head, -at(lengths, arc), arc) || cheaper;
                }
            }
            return cheaper;
        }

        private boolean reach(int point, int before, int length, int arc) {
            int cost = at(costs, before) + length;
            if (at(costs, before) >= ENDLESS || cost >= at(costs, point)) {
                return false;
            }
            put(costs, point, cost);
            put(arcs, point, arc);
            return true;
        }

        private void send() {
            int point = target;
            for (int step = 0; step < POINTS && point != source; step++) {
                int arc = at(arcs, point);
                boolean along = at(heads, arc) == point;
                put(flows, arc, at(flows, arc) + (along ? 1 : -1));
                point = along ? at(tails, arc) : at(heads, arc);
            }
        }
    }

    /** Finds the first allowed walk. What may follow depends on the last edge, so lengths are measured from edges. */
    private static final class AllowedWalk {
        private final Network network;
        /** For each edge the length of the shortest allowed walk that begins with it. */
        private final int[] lengths = new int[MOST_EDGES];
        /** The walk that was found. No edge stands in it twice: what follows it later could follow it at once. */
        private final int[] found = new int[MOST_EDGES];
        private int foundSize;

        AllowedWalk(Network network) {
            this.network = network;
        }

        /** Answers the length of the walk. */
        int find(int from, int to) {
            foundSize = 0;
            if (from == to) {
                return 0;
            }
            measureTo(to);
            int edge = bestAfter(NONE, from);
            int length = lengthFrom(edge);
            while (edge != NONE && foundSize < MOST_EDGES) {
                put(found, foundSize, edge);
                foundSize++;
                int node = network.headOf(edge);
                edge = node == to ? NONE : bestAfter(edge, node);
            }
            return length;
        }

        private void measureTo(int to) {
            Arrays.fill(lengths, ENDLESS);
            boolean shortened = true;
            // A shortest allowed walk has no edge twice, so as many rounds as edges settle all of them.
            for (int round = 0; round < MOST_EDGES && shortened; round++) {
                shortened = shortenAll(to);
            }
        }

        private boolean shortenAll(int to) {
            boolean shortened = false;
            for (int place = 0; place < network.usableTotal(); place++) {
                int edge = network.outEdge(place);
                int node = network.headOf(edge);
                int behind = node == to ? 0 : lengthFrom(bestAfter(edge, node));
                int length = network.lengthOf(edge) + behind;
                if (length < lengthFrom(edge)) {
                    put(lengths, edge, length);
                    shortened = true;
                }
            }
            return shortened;
        }

        private int lengthFrom(int edge) {
            return edge == NONE ? ENDLESS : at(lengths, edge);
        }

        /** The lowest of the edges that go on in the shortest allowed way, or NONE; before may be NONE, too. */
        private int bestAfter(int before, int node) {
            int best = NONE;
            int least = ENDLESS;
            for (int place = network.outStart(node); place < network.outEnd(node); place++) {
                int edge = network.outEdge(place);
                boolean forbidden = before != NONE && network.isForbidden(before, edge);
                if (!forbidden && lengthFrom(edge) < least) {
                    least = lengthFrom(edge);
                    best = edge;
                }
            }
            return best;
        }

        int foundSize() {
            return foundSize;
        }

        int foundEdge(int place) {
            return place >= 0 && place < foundSize ? at(found, place) : NONE;
        }
    }
}
