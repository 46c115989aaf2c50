/** A call that throws an exception changes nothing: each call that can throw, for each reason, in a network that shows all. */
final class ChangesNothing {
    /** Draws stand at their first path and walk; edge 3 and node 3 are closed, the turn from 0 to 1 is forbidden. */
    private static final String STATE = "begin 4; addEdge 0 1 1 : 0; addEdge 1 2 2 : 1; addEdge 0 2 9 : 2; addEdge 1 2 1 : 3; addEdge 2 3 1 : 4; "
        + "toggleEdge 3 : true; toggleNode 3 : true; toggleTurn 0 1 : true; startPaths 0 2; nextPath : 3; startWalks 0 2; nextWalk : 3";

    /** Asks for all of that state, at last also by what changes it. */
    private static final String[] UNCHANGED = {
        "nodes : 4; edges : 5; usableEdges : 3; distance 0 2 : 3; allowedLength 0 2 : 9; allowedEdges 0 2 : 1; countPaths 0 2 9 : 2",
        "pathsDrawn : 1; pathEdges : 2; pathEdge 0 : 0; pathEdge 1 : 1; walksDrawn : 1; walkEdges : 2; walkEdge 0 : 0; walkEdge 1 : 1",
        "nextPath : 9; nextWalk : 9; pathsDrawn : 2; walksDrawn : 2; nextPath : NSE; nextWalk : NSE; toggleTurn 0 1 : false",
        "toggleEdge 3 : false; toggleNode 3 : false; usableEdges : 5; setLength 0 1 : 1; setLength 1 2 : 2; setLength 2 9 : 9",
        "setLength 3 1 : 1; setLength 4 1 : 1; addEdge 3 0 1 : 5"
    };

    private static final String[] REFUSED = {
        "begin 1 : IAE", "begin 11 : IAE", "begin -1 : IAE", "addEdge 4 0 1 : IAE", "addEdge 0 4 1 : IAE", "addEdge 0 0 1 : IAE",
        "addEdge 0 1 0 : IAE", "addEdge 0 1 1001 : IAE", "setLength 5 1 : IAE", "setLength -1 1 : IAE", "setLength 0 0 : IAE",
        "setLength 0 1001 : IAE", "toggleEdge 5 : IAE", "toggleEdge -1 : IAE", "toggleEdge 35 : IAE", "toggleNode 4 : IAE",
        "toggleNode -1 : IAE", "toggleNode 35 : IAE", "toggleTurn 0 5 : IAE", "toggleTurn 5 1 : IAE", "toggleTurn 1 0 : IAE",
        "toggleTurn 0 33 : IAE", "distance 0 4 : IAE", "distance 0 3 : NSE", "startPaths 0 0 : IAE", "startPaths 0 4 : IAE",
        "startPaths 4 0 : IAE", "pathEdge 2 : NSE", "pathEdge -1 : NSE", "countPaths 0 0 1 : IAE", "countPaths 0 4 1 : IAE",
        "countPaths 0 1 -1 : IAE", "countPaths 0 1 100001 : IAE", "startWalks 0 4 : IAE", "startWalks -1 0 : IAE", "walkEdge 2 : NSE",
        "walkEdge -1 : NSE", "disjointPaths 0 0 true : IAE", "disjointPaths 0 4 true : IAE", "disjointLength 0 0 1 true : IAE",
        "disjointLength 0 2 5 true : IAE", "disjointLength 0 2 0 true : IAE", "disjointLength 0 3 1 true : NSE",
        "disjointLength 0 2 3 false : NSE", "allowedLength 0 4 : IAE", "allowedLength 0 3 : NSE", "allowedEdges 4 0 : IAE",
        "allowedEdges 0 3 : NSE", "allowedEdge 0 4 0 : IAE", "allowedEdge 0 3 0 : NSE", "allowedEdge 0 2 1 : NSE"
    };

    private ChangesNothing() {
    }

    static void test() {
        Sentences.of("Terms", "A call that throws an exception changes nothing");
        for (String refused : REFUSED) {
            Caller caller = new Caller(new Pathparade());
            Sentences.test(refused, caller, STATE, refused);
            Sentences.test(refused, caller, UNCHANGED);
        }
        full();
        allDrawn();
        fiftyDrawn();
        notStarted();
    }

    private static void full() {
        Sentences.test("addEdge when there are 24", Sentences.edges(0, 1, 3, 0, 23), "startPaths 0 1; nextPath : 3",
            "startWalks 0 1; nextWalk : 3; addEdge 0 1 1 : ISE; addEdge 1 0 1 : ISE; pathsDrawn : 1; walksDrawn : 1",
            "nextPath : 3; nextWalk : 3; pathEdge 0 : 1; walkEdge 0 : 1; edges : 24; usableEdges : 24",
            "distance 0 1 : 3; distance 1 0 : NSE; setLength 0 3 : 3; setLength 23 3 : 3");
    }

    private static void allDrawn() {
        Sentences.test("nextPath when all are drawn", "addEdge 0 1 3 : 0; startPaths 0 1; nextPath : 3; nextPath : NSE",
            "pathsDrawn : 1; pathEdges : 1; pathEdge 0 : 0; nextPath : NSE; pathsDrawn : 1; pathEdge 0 : 0",
            "pathEdge 1 : NSE");
        Sentences.test("nextPath when there is none", "startPaths 0 1; nextPath : NSE; pathsDrawn : 0; pathEdges : NSE",
            "pathEdge 0 : NSE; nextPath : NSE");
        Sentences.test("nextWalk when all are drawn", "addEdge 0 1 3 : 0; startWalks 0 1; nextWalk : 3; nextWalk : NSE",
            "walksDrawn : 1; walkEdges : 1; walkEdge 0 : 0; nextWalk : NSE; walksDrawn : 1; walkEdge 0 : 0",
            "walkEdge 1 : NSE");
        Sentences.test("nextWalk when there is none", "startWalks 0 1; nextWalk : NSE; walksDrawn : 0; walkEdges : NSE",
            "walkEdge 0 : NSE; nextWalk : NSE");
    }

    private static void fiftyDrawn() {
        Caller caller = new Caller(new Pathparade());
        Sentences.test("nextWalk after fifty", caller, "addEdge 0 1 1 : 0; addEdge 1 0 1 : 1; startPaths 0 1",
            "startWalks 0 1");
        for (int walk = 0; walk < 50; walk++) {
            Sentences.test("nextWalk after fifty", caller, "nextWalk : " + (1 + 2 * walk));
        }
        Sentences.test("nextWalk after fifty", caller, "nextWalk : ISE; walksDrawn : 50; walkEdges : 99",
            "walkEdge 98 : 0; walkEdge 99 : NSE; nextWalk : ISE; walksDrawn : 50; walkEdges : 99; nextPath : 1");
    }

    private static void notStarted() {
        Sentences.test("calls of draws that are not started", "addEdge 0 1 1 : 0; nextPath : ISE; pathsDrawn : ISE",
            "pathEdges : ISE; pathEdge 0 : ISE; nextWalk : ISE; walksDrawn : ISE; walkEdges : ISE; walkEdge 0 : ISE",
            "nextPath : ISE; nextWalk : ISE; startPaths 0 1; pathsDrawn : 0; nextWalk : ISE; nextPath : 1",
            "startWalks 0 1; walksDrawn : 0; nextWalk : 1; edges : 1; usableEdges : 1");
    }
}
