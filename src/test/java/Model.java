import java.util.ArrayList;
import java.util.Comparator;
import java.util.List;
import java.util.NoSuchElementException;
import java.util.PriorityQueue;

/** What the document says, in the most literal way: lists of all paths and walks, sorted, whatever it takes. */
final class Model {
    private static final class Edge {
        final int number;
        final int from;
        final int to;
        int length;
        boolean closed;
        final List<Edge> forbidden = new ArrayList<>();

        Edge(int number, int from, int to, int length) {
            this.number = number;
            this.from = from;
            this.to = to;
            this.length = length;
        }
    }

    private static final Comparator<List<Edge>> ORDER = (a, b) -> {
        int order = Integer.compare(length(a), length(b));
        for (int i = 0; order == 0 && i < Math.min(a.size(), b.size()); i++) {
            order = Integer.compare(a.get(i).number, b.get(i).number);
        }
        return order;
    };

    private final List<Edge> all = new ArrayList<>();
    private boolean[] closed = new boolean[2];
    private List<List<Edge>> paths;
    private List<List<Edge>> walks;
    private int pathCount;
    private int walkCount;

    void begin(int nodes) {
        illegal(nodes < 2 || nodes > 10);
        closed = new boolean[nodes];
        all.clear();
        changed();
    }

    int addEdge(int from, int to, int length) {
        checkNodes(from, to);
        illegal(from == to || length < 1 || length > 1000);
        if (all.size() == 24) {
            throw new IllegalStateException();
        }
        all.add(new Edge(all.size(), from, to, length));
        changed();
        return all.size() - 1;
    }

    int setLength(int edge, int length) {
        checkEdge(edge);
        illegal(length < 1 || length > 1000);
        int before = all.get(edge).length;
        all.get(edge).length = length;
        changed();
        return before;
    }

    boolean toggleEdge(int edge) {
        checkEdge(edge);
        changed();
        return all.get(edge).closed = !all.get(edge).closed;
    }

    boolean toggleNode(int node) {
        checkNodes(node, node);
        changed();
        return closed[node] = !closed[node];
    }

    boolean toggleTurn(int first, int second) {
        checkEdge(first);
        checkEdge(second);
        illegal(all.get(first).to != all.get(second).from);
        List<Edge> forbidden = all.get(first).forbidden;
        return !forbidden.remove(all.get(second)) && forbidden.add(all.get(second));
    }

    int nodes() {
        return closed.length;
    }

    int edges() {
        return all.size();
    }

    int usableEdges() {
        return usable().size();
    }

    int distance(int from, int to) {
        checkNodes(from, to);
        if (from == to) {
            return 0;
        }
        return length(first(allPaths(from, to)));
    }

    void startPaths(int from, int to) {
        checkTwoNodes(from, to);
        paths = allPaths(from, to);
        pathCount = 0;
    }

    int nextPath() {
        started(paths);
        missing(pathCount == paths.size());
        return length(paths.get(pathCount++));
    }

    int pathsDrawn() {
        started(paths);
        return pathCount;
    }

    int pathEdges() {
        started(paths);
        missing(pathCount == 0);
        return paths.get(pathCount - 1).size();
    }

    int pathEdge(int place) {
        started(paths);
        missing(pathCount == 0);
        return edgeOf(paths.get(pathCount - 1), place);
    }

    int countPaths(int from, int to, int length) {
        checkTwoNodes(from, to);
        illegal(length < 0 || length > 100000);
        int count = 0;
        for (List<Edge> path : allPaths(from, to)) {
            count += length(path) <= length ? 1 : 0;
        }
        return count;
    }

    void startWalks(int from, int to) {
        checkNodes(from, to);
        walks = firstWalks(from, to);
        walkCount = 0;
    }

    int nextWalk() {
        started(walks);
        if (walkCount == 50) {
            throw new IllegalStateException();
        }
        missing(walkCount == walks.size());
        return length(walks.get(walkCount++));
    }

    int walksDrawn() {
        started(walks);
        return walkCount;
    }

    int walkEdges() {
        started(walks);
        missing(walkCount == 0);
        return walks.get(walkCount - 1).size();
    }

    int walkEdge(int place) {
        started(walks);
        missing(walkCount == 0);
        return edgeOf(walks.get(walkCount - 1), place);
    }

    int disjointPaths(int from, int to, boolean apart) {
        checkTwoNodes(from, to);
        return leastSums(from, to, apart).size();
    }

    int disjointLength(int from, int to, int paths, boolean apart) {
        checkTwoNodes(from, to);
        illegal(paths < 1 || paths > 4);
        List<Integer> sums = leastSums(from, to, apart);
        missing(paths > sums.size());
        return sums.get(paths - 1);
    }

    int allowedLength(int from, int to) {
        return length(firstAllowed(from, to));
    }

    int allowedEdges(int from, int to) {
        return firstAllowed(from, to).size();
    }

    int allowedEdge(int from, int to, int place) {
        return edgeOf(firstAllowed(from, to), place);
    }

    /** All paths, in their order. */
    private List<List<Edge>> allPaths(int from, int to) {
        List<List<Edge>> found = new ArrayList<>();
        if (from != to) {
            collect(new ArrayList<>(), from, to, found);
        }
        found.sort(ORDER);
        return found;
    }

    private void collect(List<Edge> begun, int node, int to, List<List<Edge>> found) {
        if (node == to) {
            found.add(new ArrayList<>(begun));
            return;
        }
        for (Edge edge : usable()) {
            if (edge.from == node && !visits(begun, edge.to) && (begun.isEmpty() || edge.to != begun.get(0).from)) {
                begun.add(edge);
                collect(begun, edge.to, to, found);
                begun.remove(begun.size() - 1);
            }
        }
    }

    private static boolean visits(List<Edge> walk, int node) {
        for (Edge edge : walk) {
            if (edge.to == node) {
                return true;
            }
        }
        return false;
    }

    /** A walk that has begun, and the least length that it can come to where it has to end. */
    private static final class Begun {
        final List<Edge> walk;
        final int least;

        Begun(List<Edge> walk, int least) {
            this.walk = walk;
            this.least = least;
        }
    }

    /** The first walks, fifty at least if there are so many: all that are not longer than the fiftieth, sorted. */
    private List<List<Edge>> firstWalks(int from, int to) {
        int[] left = new int[closed.length];
        for (int node = 0; node < left.length; node++) {
            List<List<Edge>> ways = allPaths(node, to);
            left[node] = node == to ? 0 : ways.isEmpty() ? -1 : length(ways.get(0));
        }
        List<List<Edge>> found = new ArrayList<>();
        PriorityQueue<Begun> begun = new PriorityQueue<>(Comparator.comparingInt(b -> b.least));
        if (left[from] >= 0) {
            begun.add(new Begun(new ArrayList<>(), left[from]));
        }
        while (!begun.isEmpty() && (found.size() < 50 || begun.peek().least == length(found.get(found.size() - 1)))) {
            List<Edge> walk = begun.remove().walk;
            int node = end(walk, from);
            if (node == to) {
                found.add(walk);
            }
            for (Edge edge : usable()) {
                if (edge.from == node && left[edge.to] >= 0) {
                    List<Edge> longer = longer(walk, edge);
                    begun.add(new Begun(longer, length(longer) + left[edge.to]));
                }
            }
        }
        found.sort(ORDER);
        return found;
    }

    /** Walks are taken in their order; of those that end with the same edge the first one has the first way on. */
    private List<Edge> firstAllowed(int from, int to) {
        checkNodes(from, to);
        PriorityQueue<List<Edge>> begun = new PriorityQueue<>(ORDER);
        List<Edge> ended = new ArrayList<>();
        begun.add(new ArrayList<>());
        while (!begun.isEmpty()) {
            List<Edge> walk = begun.remove();
            int node = end(walk, from);
            Edge last = walk.isEmpty() ? null : walk.get(walk.size() - 1);
            if (node == to) {
                return walk;
            }
            if (last != null && ended.contains(last)) {
                continue;
            }
            ended.add(last);
            for (Edge edge : usable()) {
                if (edge.from == node && (last == null || !last.forbidden.contains(edge))) {
                    begun.add(longer(walk, edge));
                }
            }
        }
        throw new NoSuchElementException();
    }

    private static int end(List<Edge> walk, int from) {
        return walk.isEmpty() ? from : walk.get(walk.size() - 1).to;
    }

    private static List<Edge> longer(List<Edge> walk, Edge edge) {
        List<Edge> longer = new ArrayList<>(walk);
        longer.add(edge);
        return longer;
    }

    /** The least sum for one path, for two, and so on. */
    private List<Integer> leastSums(int from, int to, boolean apart) {
        List<Integer> sums = new ArrayList<>();
        choose(allPaths(from, to), 0, new ArrayList<>(), apart, sums);
        return sums;
    }

    private static void choose(List<List<Edge>> from, int start, List<List<Edge>> chosen, boolean apart, List<Integer> sums) {
        int sum = 0;
        for (List<Edge> path : chosen) {
            sum += length(path);
        }
        if (chosen.size() > sums.size()) {
            sums.add(sum);
        } else if (!chosen.isEmpty() && sum < sums.get(chosen.size() - 1)) {
            sums.set(chosen.size() - 1, sum);
        }
        for (int i = start; i < from.size(); i++) {
            if (goesWith(from.get(i), chosen, apart)) {
                chosen.add(from.get(i));
                choose(from, i + 1, chosen, apart, sums);
                chosen.remove(chosen.size() - 1);
            }
        }
    }

    private static boolean goesWith(List<Edge> path, List<List<Edge>> chosen, boolean apart) {
        for (List<Edge> other : chosen) {
            for (int i = 0; i < path.size(); i++) {
                boolean shares = other.contains(path.get(i));
                boolean meets = i + 1 < path.size() && visits(other, path.get(i).to);
                if (shares || apart && meets) {
                    return false;
                }
            }
        }
        return true;
    }

    private List<Edge> usable() {
        List<Edge> usable = new ArrayList<>();
        for (Edge edge : all) {
            if (!edge.closed && !closed[edge.from] && !closed[edge.to]) {
                usable.add(edge);
            }
        }
        return usable;
    }

    private static int length(List<Edge> walk) {
        int length = 0;
        for (Edge edge : walk) {
            length += edge.length;
        }
        return length;
    }

    private static int edgeOf(List<Edge> walk, int place) {
        missing(place < 0 || place >= walk.size());
        return walk.get(place).number;
    }

    private static List<Edge> first(List<List<Edge>> walks) {
        missing(walks.isEmpty());
        return walks.get(0);
    }

    private void changed() {
        paths = null;
        walks = null;
    }

    private void checkNodes(int from, int to) {
        illegal(from < 0 || from >= closed.length || to < 0 || to >= closed.length);
    }

    private void checkTwoNodes(int from, int to) {
        checkNodes(from, to);
        illegal(from == to);
    }

    private void checkEdge(int edge) {
        illegal(edge < 0 || edge >= all.size());
    }

    private static void illegal(boolean is) {
        if (is) {
            throw new IllegalArgumentException();
        }
    }

    private static void missing(boolean is) {
        if (is) {
            throw new NoSuchElementException();
        }
    }

    private static void started(List<List<Edge>> drawn) {
        if (drawn == null) {
            throw new IllegalStateException();
        }
    }
}
