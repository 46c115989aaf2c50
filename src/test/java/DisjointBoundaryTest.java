/** The boundary cases of promises 23 and 24, each sentence with tests of its own. */
final class DisjointBoundaryTest {
    private static final String LOW = Sentences.LOW;
    private static final String HIGH = Sentences.HIGH;
    /** Three ways from 0 to 3: by node 1 (length 3), by node 2 (length 11), and edge 4 (length 20). */
    private static final String THREE_WAYS =
        "begin 4; addEdge 0 1 1 : 0; addEdge 1 3 2 : 1; addEdge 0 2 5 : 2; addEdge 2 3 6 : 3; addEdge 0 3 20 : 4";
    /** Two paths from 0 to 4 that share no edge, but have to share node 2. */
    private static final String SHARED_NODE =
        "begin 5; addEdge 0 1 1 : 0; addEdge 1 2 1 : 1; addEdge 2 3 1 : 2; addEdge 3 4 1 : 3; "
        + "addEdge 0 2 1 : 4; addEdge 2 4 1 : 5";
    /** The shortest path, 0 1 2 5, is in the way of two that share nothing: 0 1 4 5 and 0 3 2 5. */
    private static final String IN_THE_WAY =
        "begin 6; addEdge 0 1 1 : 0; addEdge 1 2 1 : 1; addEdge 2 5 1 : 2; addEdge 0 3 3 : 3; "
        + "addEdge 3 2 1 : 4; addEdge 1 4 1 : 5; addEdge 4 5 3 : 6";

    public static void main(String[] args) {
        disjointPaths();
        disjointPathsArguments();
        disjointLength();
        disjointLengthArguments();
        Sentences.end("DisjointBoundaryTest", 23, 24);
    }

    private static void disjointPaths() {
        Sentences.of(23, "the greatest number of paths between two nodes of which no two share an edge");
        Sentences.test("none", "disjointPaths 0 1 false : 0; disjointPaths 0 1 true : 0; addEdge 1 0 1 : 0",
            "disjointPaths 0 1 false : 0; disjointPaths 1 0 false : 1");
        Sentences.test("all 24 edges", Sentences.edges(0, 1, 1, 0, 23), "disjointPaths 0 1 false : 24",
            "disjointPaths 0 1 true : 24; toggleEdge 5 : true; disjointPaths 0 1 false : 23");
        Sentences.test("one edge that all need", "begin 4; addEdge 0 1 1 : 0; addEdge 0 1 1 : 1; addEdge 1 2 1 : 2",
            "addEdge 2 3 1 : 3; addEdge 2 3 1 : 4; disjointPaths 0 3 false : 1; addEdge 1 2 9 : 5",
            "disjointPaths 0 3 false : 2; disjointPaths 0 3 true : 1");
        Sentences.test("the shortest path is in the way", IN_THE_WAY, "disjointPaths 0 5 false : 2",
            "disjointPaths 0 5 true : 2");
        Sentences.test("lengths and turns do not matter", THREE_WAYS, "setLength 0 1000 : 1; toggleTurn 0 1 : true",
            "toggleTurn 2 3 : true; disjointPaths 0 3 false : 3; disjointPaths 0 3 true : 3");
        Sentences.test("closed", THREE_WAYS, "toggleEdge 4 : true; disjointPaths 0 3 true : 2; toggleNode 1 : true",
            "disjointPaths 0 3 true : 1; toggleNode 3 : true; disjointPaths 0 3 false : 0; toggleNode 3 : false",
            "toggleNode 0 : true; disjointPaths 0 3 false : 0");
        Sentences.test("edges into the first node and out of the last one", "begin 3; addEdge 0 1 1 : 0",
            "addEdge 1 0 1 : 1; addEdge 1 2 1 : 2; addEdge 2 1 1 : 3; addEdge 2 0 1 : 4; disjointPaths 0 1 false : 1",
            "disjointPaths 0 2 false : 1; disjointPaths 2 1 false : 2; disjointPaths 1 0 true : 2");
        Sentences.of(23, "true if no two of them may share a node either");
        Sentences.test("a node that both need", SHARED_NODE, "disjointPaths 0 4 false : 2; disjointPaths 0 4 true : 1");
        Sentences.test("parallel edges through one node", "begin 3", Sentences.edges(0, 1, 1, 0, 11),
            Sentences.edges(1, 2, 1, 12, 23), "disjointPaths 0 2 false : 12; disjointPaths 0 2 true : 1");
        Sentences.of(23, "except from and to");
        Sentences.test("they share these", THREE_WAYS, "disjointPaths 0 3 true : 3; addEdge 0 3 1 : 5",
            "addEdge 0 3 1 : 6; disjointPaths 0 3 true : 5");
        Sentences.test("eight nodes between", "begin 10; addEdge 0 1 1 : 0; addEdge 0 2 1 : 1; addEdge 0 3 1 : 2",
            "addEdge 0 4 1 : 3; addEdge 0 5 1 : 4; addEdge 0 6 1 : 5; addEdge 0 7 1 : 6; addEdge 0 8 1 : 7",
            "addEdge 1 9 1 : 8; addEdge 2 9 1 : 9; addEdge 3 9 1 : 10; addEdge 4 9 1 : 11; addEdge 5 9 1 : 12",
            "addEdge 6 9 1 : 13; addEdge 7 9 1 : 14; addEdge 8 9 1 : 15; disjointPaths 0 9 true : 8",
            "disjointPaths 0 9 false : 8; disjointLength 0 9 4 true : 8");
    }

    private static void disjointPathsArguments() {
        Sentences.of(23, "from: a node");
        Sentences.test("the first and the last", "begin 10; addEdge 0 5 1 : 0; addEdge 9 5 2 : 1; addEdge 9 5 2 : 2",
            "disjointPaths 0 5 true : 1; disjointPaths 9 5 true : 2");
        Sentences.of(23, "to: another node");
        Sentences.test("the first and the last", "begin 10; addEdge 5 0 1 : 0; addEdge 5 9 2 : 1; addEdge 5 9 2 : 2",
            "disjointPaths 5 0 true : 1; disjointPaths 5 9 true : 2");
        Sentences.of(23, "Returns the number.");
        Sentences.test("more than four", Sentences.edges(0, 1, 1, 0, 4), "disjointPaths 0 1 false : 5",
            "disjointPaths 0 1 true : 5; disjointPaths 1 0 true : 0");
        Sentences.of(23, "if from or to is not a node");
        Sentences.refuses("nodes : 2", "disjointPaths ? 0 true", "2", "-1", "9", "10", "32", "33", LOW, HIGH);
        Sentences.refuses("nodes : 2", "disjointPaths 0 ? false", "2", "-1", "9", "10", "32", "33", LOW, HIGH);
        Sentences.refuses("begin 10", "disjointPaths ? 0 false", "10", "-1");
        Sentences.refuses("begin 10", "disjointPaths 0 ? true", "10", "-1");
        Sentences.of(23, "or both are the same");
        Sentences.refuses("begin 10", "disjointPaths ? ? true", "0", "1", "9", "10", "-1");
        Sentences.refuses("begin 10", "disjointPaths ? ? false", "0", "1", "9", "10", "-1");
    }

    private static void disjointLength() {
        Sentences.of(24, "the least sum of the lengths of several paths between two nodes of which no two share an edge");
        Sentences.test("one, two, three", THREE_WAYS, "disjointLength 0 3 1 false : 3; disjointLength 0 3 2 false : 14",
            "disjointLength 0 3 3 false : 34");
        Sentences.test("the shortest path is in the way", IN_THE_WAY, "disjointLength 0 5 1 false : 3",
            "disjointLength 0 5 2 false : 10; disjointLength 0 5 2 true : 10");
        Sentences.test("an edge given back by one path and used again by a later one", "begin 4; addEdge 2 3 1 : 0",
            "addEdge 2 1 3 : 1; addEdge 3 1 3 : 2; addEdge 2 3 3 : 3; addEdge 0 2 3 : 4; addEdge 0 2 1 : 5",
            "addEdge 0 3 3 : 6; addEdge 3 1 1 : 7; disjointLength 0 1 1 false : 3; disjointLength 0 1 2 false : 8",
            "disjointLength 0 1 3 false : 15");
        Sentences.test("not the most edges nor the first ones", Sentences.edges(0, 1, 9, 0, 3), "addEdge 0 1 2 : 4",
            "addEdge 0 1 1 : 5; disjointLength 0 1 2 false : 3; disjointLength 0 1 4 true : 21");
        Sentences.of(24, "Returns the sum of their lengths.");
        Sentences.test("the least", "addEdge 0 1 1 : 0; disjointLength 0 1 1 true : 1; disjointLength 0 1 1 false : 1");
        Sentences.test("all 24 edges in four paths", longest(), "disjointLength 0 6 4 false : 24000",
            "disjointLength 0 6 1 true : 6000; disjointPaths 0 6 false : 4");
        Sentences.of(24, "true if no two of them may share a node either");
        Sentences.test("a node that both need", SHARED_NODE, "disjointLength 0 4 2 false : 6",
            "disjointLength 0 4 2 true : NSE; disjointLength 0 4 1 true : 2");
        Sentences.test("a longer way round", SHARED_NODE, "addEdge 1 4 50 : 6; disjointLength 0 4 2 false : 6",
            "disjointLength 0 4 2 true : 53");
        Sentences.of(24, "except from and to");
        Sentences.test("they share these", THREE_WAYS, "disjointLength 0 3 3 true : 34; addEdge 0 3 1 : 5",
            "disjointLength 0 3 4 true : 35");
    }

    /** Four edges for each of six steps. */
    private static String longest() {
        StringBuilder rows = new StringBuilder("begin 7");
        for (int step = 0; step < 6; step++) {
            rows.append("; ").append(Sentences.edges(step, step + 1, 1000, 4 * step, 4 * step + 3));
        }
        return rows.toString();
    }

    private static void disjointLengthArguments() {
        Sentences.of(24, "from: a node");
        Sentences.test("the first and the last", "begin 10; addEdge 0 5 1 : 0; addEdge 9 5 2 : 1",
            "disjointLength 0 5 1 true : 1; disjointLength 9 5 1 true : 2");
        Sentences.of(24, "to: another node");
        Sentences.test("the first and the last", "begin 10; addEdge 5 0 1 : 0; addEdge 5 9 2 : 1",
            "disjointLength 5 0 1 true : 1; disjointLength 5 9 1 true : 2");
        Sentences.of(24, "paths: number of paths, 1 to 4");
        Sentences.test("the least and the greatest", Sentences.edges(0, 1, 5, 0, 4), "disjointLength 0 1 1 true : 5",
            "disjointLength 0 1 4 true : 20; disjointLength 0 1 1 false : 5; disjointLength 0 1 4 false : 20");
        Sentences.of(24, "if from or to is not a node");
        Sentences.refuses("nodes : 2", "disjointLength ? 0 1 true", "2", "-1", "9", "10", "32", "33", LOW, HIGH);
        Sentences.refuses("nodes : 2", "disjointLength 0 ? 1 false", "2", "-1", "9", "10", "32", "33", LOW, HIGH);
        Sentences.refuses("begin 10", "disjointLength ? 0 1 false", "10", "-1");
        Sentences.refuses("begin 10", "disjointLength 0 ? 1 true", "10", "-1");
        Sentences.of(24, "both are the same");
        Sentences.refuses("begin 10", "disjointLength ? ? 1 true", "0", "1", "9", "10", "-1");
        Sentences.refuses("begin 10", "disjointLength ? ? 1 false", "0", "1", "9", "10", "-1");
        Sentences.of(24, "or paths is out of range");
        Sentences.refuses(Sentences.edges(0, 1, 5, 0, 5), "disjointLength 0 1 ? true", "0", "5", "-1", "6", "24", LOW, HIGH);
        Sentences.refuses("edges : 0", "disjointLength 0 1 ? false", "0", "5", "-1", LOW, HIGH);
        Sentences.of(24, "if there are not so many such paths");
        Sentences.test("none", "disjointLength 0 1 1 true : NSE; disjointLength 0 1 4 false : NSE");
        for (int there = 1; there < 4; there++) {
            Sentences.test(there + " there, one more asked for", Sentences.edges(0, 1, 5, 0, there - 1),
                "disjointLength 0 1 " + there + " true : " + 5 * there,
                "disjointLength 0 1 " + (there + 1) + " true : NSE; disjointLength 0 1 " + (there + 1) + " false : NSE");
        }
        Sentences.test("closed", THREE_WAYS, "toggleEdge 4 : true; disjointLength 0 3 3 true : NSE",
            "toggleNode 2 : true; disjointLength 0 3 2 true : NSE; disjointLength 0 3 1 true : 3; toggleNode 0 : true",
            "disjointLength 0 3 1 true : NSE");
    }
}
