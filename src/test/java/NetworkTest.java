/** Promises 1 to 11. */
final class NetworkTest {
    private static final String ILL_INT = "-2147483648";
    private static final String BIG_INT = "2147483647";

    public static void main(String[] args) {
        newObject();
        begin();
        beginForgetsAll();
        addEdge();
        addEdgeUpToTheLast();
        setLength();
        toggleEdge();
        toggleNode();
        toggleTurn();
        counts();
        distance();
        wrongCallsChangeNothing();
        Runs.end("NetworkTest");
    }

    private static void newObject() {
        Runs.run("promise 1", "nodes : 2; edges : 0; usableEdges : 0; distance 0 1 : NSE; distance 1 1 : 0",
            "distance 0 2 : IAE; pathsDrawn : ISE; walksDrawn : ISE; toggleNode 2 : IAE; toggleNode 1 : true",
            "toggleEdge 0 : IAE; addEdge 1 0 1 : 0");
    }

    private static void begin() {
        Runs.run("promise 2",
            "begin 1 : IAE; begin 11 : IAE; begin 0 : IAE; begin -1 : IAE; begin " + ILL_INT + " : IAE",
            "begin " + BIG_INT + " : IAE; nodes : 2",
            "begin 2; nodes : 2; begin 10; nodes : 10; addEdge 9 0 1 : 0; addEdge 10 0 1 : IAE",
            "begin 3; nodes : 3; edges : 0; addEdge 2 0 4 : 0; addEdge 3 0 1 : IAE; distance 2 0 : 4");
    }

    private static void beginForgetsAll() {
        Runs.run("promise 2 forgets",
            "begin 3; addEdge 0 1 1 : 0; addEdge 1 2 1 : 1; toggleEdge 0 : true; toggleNode 2 : true",
            "toggleTurn 0 1 : true; begin 3; edges : 0; usableEdges : 0",
            "addEdge 0 1 1 : 0; addEdge 1 2 1 : 1; usableEdges : 2; allowedLength 0 2 : 2",
            "toggleEdge 0 : true; toggleNode 2 : true; toggleTurn 0 1 : true");
        Runs.run("promise 2 forgets open edges",
            "begin 3; addEdge 0 1 1 : 0; addEdge 1 2 1 : 1; begin 3; usableEdges : 0; distance 0 1 : NSE",
            "allowedLength 0 2 : NSE; startPaths 0 2; nextPath : NSE; startWalks 0 2; nextWalk : NSE; toggleTurn 0 1 : IAE");
    }

    private static void addEdge() {
        Runs.run("promise 3",
            "begin 4; addEdge 0 1 1 : 0; addEdge 0 1 1000 : 1; addEdge 3 0 5 : 2; edges : 3",
            "addEdge 0 0 1 : IAE; addEdge 3 3 1 : IAE; addEdge 4 0 1 : IAE; addEdge 0 4 1 : IAE",
            "addEdge -1 0 1 : IAE; addEdge 0 -1 1 : IAE; addEdge 0 1 0 : IAE; addEdge 0 1 1001 : IAE",
            "addEdge 0 1 -1 : IAE; addEdge 0 1 " + ILL_INT + " : IAE; addEdge 0 " + BIG_INT + " 1 : IAE; edges : 3",
            "distance 0 1 : 1; distance 3 1 : 6; addEdge 3 1 2 : 3; distance 3 1 : 2",
            "toggleEdge 3 : true; addEdge 3 1 3 : 4; distance 3 1 : 3; usableEdges : 4");
    }

    private static void addEdgeUpToTheLast() {
        Caller caller = new Caller(new Pathparade());
        Runs.run("promise 3 full", caller, "begin 10");
        for (int edge = 0; edge < 24; edge++) {
            Runs.run("promise 3 full", caller, "addEdge " + edge % 10 + " " + (edge + 1) % 10 + " 7 : " + edge);
        }
        Runs.run("promise 3 full", caller,
            "edges : 24; usableEdges : 24; startPaths 0 1; nextPath : 7",
            "addEdge 0 1 1 : ISE; addEdge 0 0 1 : IAE; addEdge 0 10 1 : IAE; addEdge 0 1 0 : IAE; addEdge 0 1 1001 : IAE",
            "edges : 24; pathsDrawn : 1; distance 0 1 : 7; toggleEdge 23 : true; toggleEdge 24 : IAE",
            "addEdge 0 1 1 : ISE; setLength 23 9 : 7; begin 2; addEdge 0 1 1 : 0");
    }

    private static void setLength() {
        Runs.run("promise 4",
            "begin 3; addEdge 0 1 3 : 0; addEdge 1 2 4 : 1; distance 0 2 : 7",
            "setLength 0 1000 : 3; distance 0 2 : 1004; setLength 0 1 : 1000; setLength 0 1 : 1; distance 0 2 : 5",
            "setLength 0 0 : IAE; setLength 0 1001 : IAE; setLength 2 5 : IAE; setLength -1 5 : IAE",
            "setLength 0 " + ILL_INT + " : IAE; setLength " + BIG_INT + " 5 : IAE; setLength 0 6 : 1; setLength 1 7 : 4",
            "toggleEdge 1 : true; setLength 1 9 : 7; toggleEdge 1 : false; distance 0 2 : 15");
    }

    private static void toggleEdge() {
        Runs.run("promise 5",
            "addEdge 0 1 3 : 0; addEdge 0 1 5 : 1; toggleEdge 0 : true; usableEdges : 1; distance 0 1 : 5",
            "toggleEdge 1 : true; distance 0 1 : NSE; toggleEdge 0 : false; distance 0 1 : 3; edges : 2",
            "toggleEdge 2 : IAE; toggleEdge -1 : IAE; toggleEdge " + ILL_INT + " : IAE; toggleEdge 32 : IAE",
            "usableEdges : 1; toggleEdge 1 : false; usableEdges : 2");
    }

    private static void toggleNode() {
        Runs.run("promise 6",
            "begin 3; addEdge 0 1 1 : 0; addEdge 1 2 1 : 1; addEdge 0 2 9 : 2; distance 0 2 : 2",
            "toggleNode 1 : true; usableEdges : 1; distance 0 2 : 9; distance 1 1 : 0; toggleEdge 0 : true",
            "toggleNode 1 : false; usableEdges : 2; distance 1 2 : 1; distance 0 2 : 9; toggleEdge 0 : false",
            "distance 0 2 : 2; toggleNode 0 : true; toggleNode 2 : true; usableEdges : 0; distance 0 2 : NSE",
            "toggleNode 0 : false; usableEdges : 1; toggleNode 3 : IAE; toggleNode -1 : IAE; toggleNode 34 : IAE",
            "toggleNode " + BIG_INT + " : IAE; addEdge 1 2 1 : 3; usableEdges : 1; toggleNode 2 : false; usableEdges : 4");
    }

    private static void toggleTurn() {
        Runs.run("promise 7",
            "begin 3; addEdge 0 1 1 : 0; addEdge 1 2 1 : 1; addEdge 2 0 1 : 2; addEdge 1 0 1 : 3",
            "toggleTurn 0 1 : true; allowedLength 0 2 : NSE; toggleTurn 0 1 : false; allowedLength 0 2 : 2",
            "toggleTurn 1 0 : IAE; toggleTurn 0 0 : IAE; toggleTurn 0 2 : IAE; toggleTurn 0 4 : IAE",
            "toggleTurn 4 0 : IAE; toggleTurn -1 0 : IAE; toggleTurn 0 -1 : IAE; toggleTurn 3 0 : true",
            "toggleTurn 3 4 : IAE; toggleTurn 3 -1 : IAE; toggleTurn 3 24 : IAE; toggleTurn 4 4 : IAE",
            "toggleTurn 0 3 : true; toggleTurn 3 0 : false; toggleTurn 0 3 : false",
            "toggleEdge 0 : true; toggleNode 1 : true; toggleTurn 0 1 : true; toggleEdge 0 : false; toggleNode 1 : false",
            "allowedLength 0 2 : NSE; distance 0 2 : 2; addEdge 0 1 5 : 4; allowedLength 0 2 : 6; toggleTurn 0 1 : false");
    }

    private static void counts() {
        Runs.run("promises 8 to 10",
            "nodes : 2; begin 7; nodes : 7; edges : 0; usableEdges : 0; addEdge 0 1 1 : 0; addEdge 1 2 1 : 1",
            "addEdge 2 3 1 : 2; edges : 3; usableEdges : 3; toggleEdge 1 : true; edges : 3; usableEdges : 2",
            "toggleNode 1 : true; usableEdges : 1; toggleNode 3 : true; usableEdges : 0; edges : 3; nodes : 7",
            "toggleEdge 1 : false; usableEdges : 0; toggleNode 1 : false; usableEdges : 2; toggleNode 3 : false",
            "usableEdges : 3; toggleNode 6 : true; usableEdges : 3; nodes : 7");
    }

    private static void distance() {
        Runs.run("promise 11",
            "begin 5; addEdge 0 1 10 : 0; addEdge 0 2 3 : 1; addEdge 2 1 4 : 2; addEdge 1 3 1 : 3; addEdge 3 0 1 : 4",
            "distance 0 1 : 7; distance 0 3 : 8; distance 1 2 : 5; distance 0 0 : 0; distance 4 4 : 0",
            "distance 0 4 : NSE; distance 4 0 : NSE; distance 0 5 : IAE; distance 5 0 : IAE; distance -1 -1 : IAE",
            "distance 5 5 : IAE; distance 0 -1 : IAE; toggleNode 0 : true; distance 0 0 : 0; distance 0 1 : NSE",
            "distance 3 0 : NSE; distance 2 3 : 5; toggleTurn 2 3 : true; distance 2 3 : 5");
        Caller line = new Caller(new Pathparade());
        Runs.run("promise 11, longest", line, "begin 10");
        for (int node = 9; node > 0; node--) {
            Runs.run("promise 11, longest", line, "addEdge " + node + " " + (node - 1) + " 1000 : " + (9 - node));
        }
        Runs.run("promise 11, longest", line, "distance 9 0 : 9000; distance 0 9 : NSE; distance 5 2 : 3000");
        backwardLine();
    }

    /** Edges in the order that settles the distances one by one. */
    private static void backwardLine() {
        Caller line = new Caller(new Pathparade());
        Runs.run("promise 11, other order", line, "begin 10");
        for (int node = 0; node < 9; node++) {
            Runs.run("promise 11, other order", line, "addEdge " + node + " " + (node + 1) + " 1000 : " + node);
        }
        Runs.run("promise 11, other order", line, "distance 0 9 : 9000; countPaths 0 9 9000 : 1; countPaths 0 9 8999 : 0",
            "disjointLength 0 9 1 true : 9000; allowedLength 0 9 : 9000; allowedEdges 0 9 : 9; startPaths 0 9",
            "nextPath : 9000; pathEdges : 9; pathEdge 0 : 0; pathEdge 8 : 8; pathEdge 9 : NSE; nextPath : NSE");
    }

    private static void wrongCallsChangeNothing() {
        Runs.run("wrong calls",
            "begin 3; addEdge 0 1 2 : 0; addEdge 1 2 3 : 1; startPaths 0 2; nextPath : 5; startWalks 0 2; nextWalk : 5",
            "begin 1 : IAE; begin 11 : IAE; addEdge 0 3 1 : IAE; addEdge 0 0 1 : IAE; addEdge 0 1 0 : IAE",
            "setLength 2 1 : IAE; setLength 0 0 : IAE; toggleEdge 2 : IAE; toggleNode 3 : IAE; toggleTurn 0 2 : IAE",
            "toggleTurn 1 0 : IAE; startPaths 0 0 : IAE; startPaths 0 3 : IAE; startWalks 0 3 : IAE; startWalks -1 0 : IAE",
            "pathsDrawn : 1; pathEdges : 2; walksDrawn : 1; walkEdges : 2; nodes : 3; edges : 2; usableEdges : 2",
            "distance 0 2 : 5; allowedLength 0 2 : 5; nextPath : NSE; nextWalk : NSE; pathEdge 1 : 1; walkEdge 1 : 1");
    }
}
