/** Promises 23 and 24. */
final class DisjointTest {
    public static void main(String[] args) {
        disjointPaths();
        disjointLength();
        apartOrNot();
        detour();
        givenBackAndUsedAgain();
        parallelEdges();
        Runs.end("DisjointTest");
    }

    private static void disjointPaths() {
        Runs.run("promise 23",
            "begin 4; disjointPaths 0 1 true : 0; disjointPaths 0 1 false : 0; addEdge 0 1 1 : 0; addEdge 1 3 1 : 1",
            "addEdge 0 2 1 : 2; addEdge 2 3 1 : 3; addEdge 0 3 1 : 4; disjointPaths 0 3 true : 3; disjointPaths 0 3 false : 3",
            "disjointPaths 3 0 true : 0; disjointPaths 0 1 true : 1; disjointPaths 1 2 false : 0",
            "disjointPaths 0 0 true : IAE; disjointPaths 0 4 true : IAE; disjointPaths 4 0 false : IAE",
            "disjointPaths -1 0 false : IAE; disjointPaths 0 -1 true : IAE; disjointPaths 4 4 false : IAE",
            "toggleEdge 4 : true; disjointPaths 0 3 true : 2; toggleNode 1 : true; disjointPaths 0 3 false : 1",
            "toggleTurn 2 3 : true; disjointPaths 0 3 false : 1; toggleNode 0 : true; disjointPaths 0 3 false : 0",
            "toggleNode 0 : false; toggleNode 3 : true; disjointPaths 0 3 true : 0");
    }

    private static void disjointLength() {
        Runs.run("promise 24",
            "begin 4; disjointLength 0 1 1 true : NSE; addEdge 0 1 1 : 0; addEdge 1 3 2 : 1; addEdge 0 2 5 : 2",
            "addEdge 2 3 6 : 3; addEdge 0 3 1000 : 4; disjointLength 0 3 1 true : 3; disjointLength 0 3 2 true : 14",
            "disjointLength 0 3 3 true : 1014; disjointLength 0 3 3 false : 1014; disjointLength 0 3 4 false : NSE",
            "disjointLength 0 3 4 true : NSE; disjointLength 3 0 1 true : NSE; disjointLength 0 3 0 true : IAE",
            "disjointLength 0 3 5 true : IAE; disjointLength 0 3 -1 false : IAE; disjointLength 0 3 2147483647 true : IAE",
            "disjointLength 0 0 1 true : IAE; disjointLength 0 4 1 true : IAE; disjointLength 4 0 1 true : IAE",
            "disjointLength 0 0 4 true : IAE; disjointLength -1 3 1 true : IAE; disjointLength 3 0 5 false : IAE",
            "toggleTurn 0 1 : true; disjointLength 0 3 1 true : 3; toggleEdge 0 : true; disjointLength 0 3 2 true : 1011",
            "disjointLength 0 3 3 true : NSE; toggleEdge 0 : false; toggleNode 2 : true; disjointLength 0 3 2 true : 1003",
            "toggleNode 3 : true; disjointLength 0 3 1 true : NSE");
    }

    /** Two paths meet in node 2: they share no edge, but a node. */
    private static void apartOrNot() {
        Runs.run("apart or not",
            "begin 5; addEdge 0 1 1 : 0; addEdge 1 2 1 : 1; addEdge 2 3 1 : 2; addEdge 3 4 1 : 3; addEdge 0 2 1 : 4",
            "addEdge 2 4 1 : 5; disjointPaths 0 4 false : 2; disjointPaths 0 4 true : 1; disjointLength 0 4 1 true : 2",
            "disjointLength 0 4 2 false : 6; disjointLength 0 4 2 true : NSE; addEdge 1 4 50 : 6",
            "disjointPaths 0 4 true : 2; disjointLength 0 4 2 true : 53; disjointLength 0 4 2 false : 6",
            "disjointPaths 0 4 false : 2; disjointPaths 0 2 true : 2; disjointLength 0 2 2 true : 3");
    }

    /** The shortest path is not one of the two, and takes back what it blocks. */
    private static void detour() {
        Runs.run("detour",
            "begin 6; addEdge 0 1 1 : 0; addEdge 1 2 1 : 1; addEdge 2 5 1 : 2; addEdge 0 3 3 : 3; addEdge 3 2 1 : 4",
            "addEdge 1 4 1 : 5; addEdge 4 5 3 : 6; disjointLength 0 5 1 true : 3; disjointLength 0 5 2 true : 10",
            "disjointLength 0 5 2 false : 10; disjointPaths 0 5 true : 2; disjointPaths 0 5 false : 2",
            "addEdge 5 0 1 : 7; addEdge 4 0 1 : 8; disjointPaths 0 5 true : 2; disjointLength 0 5 2 false : 10",
            "disjointLength 0 5 3 true : NSE");
        Runs.run("paths do not pass their ends",
            "begin 4; addEdge 0 1 1 : 0; addEdge 1 2 1 : 1; addEdge 2 3 1 : 2; addEdge 3 0 1 : 3; addEdge 2 0 1 : 4",
            "addEdge 1 0 1 : 5; disjointPaths 1 2 false : 1; disjointPaths 1 3 false : 1; disjointPaths 3 1 false : 1",
            "disjointPaths 2 1 false : 1; disjointLength 2 1 1 true : 2; disjointPaths 2 0 true : 2; disjointLength 2 0 2 true : 3");
    }

    /** An edge of the first path is given back for the second one, and used again by a later one. */
    private static void givenBackAndUsedAgain() {
        Runs.run("given back and used again",
            "begin 4; addEdge 2 3 1 : 0; addEdge 2 1 3 : 1; addEdge 3 1 3 : 2; addEdge 2 3 3 : 3",
            "addEdge 0 2 3 : 4; addEdge 0 2 1 : 5; addEdge 0 3 3 : 6; addEdge 3 1 1 : 7",
            "disjointPaths 0 1 false : 3; disjointLength 0 1 3 false : 15; disjointLength 0 1 2 false : 8",
            "disjointLength 0 1 1 false : 3; disjointLength 0 1 2 true : 8; disjointLength 0 1 3 true : NSE");
        Runs.run("given back and used again by the fourth",
            "begin 5; addEdge 4 3 7 : 0; addEdge 4 1 8 : 1; addEdge 1 0 3 : 2; addEdge 0 4 6 : 3",
            "addEdge 3 4 3 : 4; addEdge 3 4 8 : 5; addEdge 3 1 8 : 6; addEdge 0 3 3 : 7",
            "addEdge 2 4 1 : 8; addEdge 4 1 6 : 9; addEdge 0 3 4 : 10; addEdge 1 0 6 : 11",
            "addEdge 3 4 2 : 12; addEdge 0 3 8 : 13; addEdge 4 1 2 : 14",
            "disjointPaths 0 1 false : 4; disjointLength 0 1 4 false : 50; disjointLength 0 1 1 true : 7");
    }

    private static void parallelEdges() {
        Caller caller = new Caller(new Pathparade());
        for (int edge = 0; edge < 24; edge++) {
            Runs.run("parallel edges", caller, "addEdge 0 1 " + (1000 - edge) + " : " + edge);
        }
        Runs.run("parallel edges", caller, "disjointPaths 0 1 true : 24; disjointPaths 0 1 false : 24; disjointPaths 1 0 true : 0",
            "disjointLength 0 1 1 true : 977; disjointLength 0 1 4 true : 3914; disjointLength 0 1 4 false : 3914",
            "toggleEdge 23 : true; disjointPaths 0 1 true : 23; disjointLength 0 1 2 true : 1957");
        Caller twoSteps = new Caller(new Pathparade());
        Runs.run("parallel edges in two steps", twoSteps, "begin 3");
        for (int edge = 0; edge < 24; edge++) {
            int step = edge % 2;
            Runs.run("parallel edges in two steps", twoSteps, "addEdge " + step + " " + (step + 1) + " 2 : " + edge);
        }
        Runs.run("parallel edges in two steps", twoSteps, "disjointPaths 0 2 false : 12; disjointPaths 0 2 true : 1",
            "disjointLength 0 2 4 false : 16; disjointLength 0 2 1 true : 4; disjointLength 0 2 2 true : NSE");
    }
}
