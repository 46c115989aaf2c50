/** The boundary cases of the sections "What it is" and "Terms", each sentence with tests of its own. */
final class TermsBoundaryTest {
    private static final String LOW = Sentences.LOW;
    private static final String HIGH = Sentences.HIGH;

    public static void main(String[] args) {
        directed();
        fiveHundredAndTwelveCalls();
        drawnOneAfterTheOther();
        sizeOfTheNetwork();
        edgeToAnotherNode();
        severalEdges();
        closedAndOpened();
        usable();
        edgeAfterEdge();
        sumOfLengths();
        sameNode();
        noNodeTwice();
        order();
        fromTheBeginning();
        sideBySide();
        changesEndBoth();
        turnsEndNothing();
        startedAgain();
        turnIsAPair();
        allowedAtFirst();
        allowedWalk();
        turnsMatterElsewhereNot();
        illegalArguments();
        orderOfExceptions();
        ChangesNothing.test();
        Sentences.end("TermsBoundaryTest", "What it is", "Terms");
    }

    private static void directed() {
        Sentences.of("What it is", "directed network");
        Sentences.test("an edge leads one way only", "addEdge 0 1 1 : 0; distance 0 1 : 1; distance 1 0 : NSE",
            "countPaths 1 0 100000 : 0; startPaths 1 0; nextPath : NSE; startWalks 1 0; nextWalk : NSE",
            "disjointPaths 1 0 false : 0; disjointLength 1 0 1 false : NSE; allowedLength 1 0 : NSE");
    }

    private static void fiveHundredAndTwelveCalls() {
        Sentences.of("What it is", "at most 512 calls");
        Caller caller = new Caller(new Pathparade());
        Sentences.test("1 to 25 fill the network", caller, "begin 9");
        for (int step = 0; step < 8; step++) {
            Sentences.test("1 to 25 fill the network", caller,
                Sentences.edges(step, step + 1, 1, 3 * step, 3 * step + 2));
        }
        Sentences.test("26 starts", caller, "startPaths 0 8");
        for (int call = 27; call <= 511; call++) {
            Sentences.test(call + " draws", caller, "nextPath : 8");
        }
        // The 485th path is the number 484 with the base 3: 0 0 1 2 2 2 2 1.
        Sentences.test("512 answers still", caller, "pathEdge 7 : 22");
        Caller toggler = new Caller(new Pathparade());
        Sentences.test("1 adds an edge", toggler, "addEdge 0 1 5 : 0");
        for (int call = 2; call <= 511; call++) {
            Sentences.test(call + " toggles", toggler, "toggleEdge 0 : " + (call % 2 == 0));
        }
        Sentences.test("512 answers still, after toggles", toggler, "distance 0 1 : 5");
    }

    private static void drawnOneAfterTheOther() {
        Sentences.of("Terms", "each no shorter than the one before");
        Sentences.test("paths come in the order of lengths, not of edges; equal ones follow each other",
            "addEdge 0 1 3 : 0; addEdge 0 1 2 : 1; addEdge 0 1 1 : 2; addEdge 0 1 2 : 3; startPaths 0 1",
            "nextPath : 1; nextPath : 2; nextPath : 2; nextPath : 3; nextPath : NSE");
        Sentences.test("walks come in the order of lengths, not of edges",
            "addEdge 0 1 9 : 0; addEdge 0 1 1 : 1; addEdge 1 0 2 : 2; startWalks 0 1",
            "nextWalk : 1; nextWalk : 4; nextWalk : 7; nextWalk : 9; nextWalk : 10; nextWalk : 12; nextWalk : 12");
        Sentences.of("Terms", "Paths without repeated nodes, and walks that may repeat nodes and edges");
        Sentences.test("the walk repeats, the path does not", "begin 3; addEdge 0 1 1 : 0; addEdge 1 0 1 : 1",
            "addEdge 1 2 1 : 2; startPaths 0 2; startWalks 0 2; nextPath : 2; nextPath : NSE; nextWalk : 2",
            "nextWalk : 4; walkEdge 0 : 0; walkEdge 1 : 1; walkEdge 2 : 0; walkEdge 3 : 2");
        Sentences.of("Terms", "counts of paths up to a length");
        Sentences.test("one less, just so, one more",
            "addEdge 0 1 5 : 0; countPaths 0 1 4 : 0; countPaths 0 1 5 : 1; countPaths 0 1 6 : 1");
    }

    private static void sizeOfTheNetwork() {
        Sentences.of("Terms", "2 to 10 nodes, numbered from 0");
        Sentences.test("two nodes: 0 and 1", "begin 2; toggleNode 0 : true; toggleNode 1 : true; toggleNode 2 : IAE",
            "toggleNode -1 : IAE; begin 1 : IAE; nodes : 2");
        Sentences.test("ten nodes: 0 to 9", "begin 10; toggleNode 0 : true; toggleNode 9 : true; toggleNode 10 : IAE",
            "toggleNode -1 : IAE; begin 11 : IAE; nodes : 10");
        Sentences.of("Terms", "at most 24 edges, numbered from 0");
        Sentences.test("no edge", "toggleEdge 0 : IAE; setLength 0 1 : IAE; edges : 0");
        Sentences.test("24 edges: 0 to 23", Sentences.edges(0, 1, 1, 0, 23), "addEdge 0 1 1 : ISE; edges : 24",
            "toggleEdge 23 : true; toggleEdge 24 : IAE; toggleEdge 0 : true; toggleEdge -1 : IAE");
        Sentences.of("Terms", "in the order in which they are added");
        Sentences.test("numbers do not follow nodes or lengths",
            "begin 3; addEdge 2 1 9 : 0; addEdge 0 1 5 : 1; addEdge 2 0 1 : 2; addEdge 0 1 4 : 3",
            "setLength 0 9 : 9; setLength 1 5 : 5; setLength 2 1 : 1; setLength 3 4 : 4");
    }

    private static void edgeToAnotherNode() {
        Sentences.of("Terms", "An edge leads from a node to another one");
        Sentences.test("not to the same one", "addEdge 0 0 1 : IAE; addEdge 1 1 1 : IAE; edges : 0; addEdge 1 0 1 : 0");
    }

    private static void severalEdges() {
        Sentences.of("Terms", "Several edges may lead from the same node to the same other one");
        Sentences.test("two, equal in all but the number",
            "addEdge 0 1 1 : 0; addEdge 0 1 1 : 1; countPaths 0 1 1 : 2; startPaths 0 1; nextPath : 1; pathEdge 0 : 0",
            "nextPath : 1; pathEdge 0 : 1; nextPath : NSE; startWalks 0 1; nextWalk : 1; nextWalk : 1; nextWalk : NSE",
            "disjointPaths 0 1 true : 2; disjointLength 0 1 2 true : 2");
        Sentences.test("all 24", Sentences.edges(1, 0, 7, 0, 23), "usableEdges : 24; countPaths 1 0 7 : 24",
            "startPaths 1 0; nextPath : 7; pathEdge 0 : 0; nextPath : 7; pathEdge 0 : 1; disjointPaths 1 0 true : 24");
    }

    private static void closedAndOpened() {
        Sentences.of("Terms", "Edges and nodes can be closed and opened again");
        Sentences.test("an edge", "addEdge 0 1 4 : 0; toggleEdge 0 : true; distance 0 1 : NSE; toggleEdge 0 : false",
            "distance 0 1 : 4; toggleEdge 0 : true; distance 0 1 : NSE; toggleEdge 0 : false; distance 0 1 : 4");
        Sentences.test("a node", "addEdge 0 1 4 : 0; toggleNode 0 : true; distance 0 1 : NSE; toggleNode 0 : false",
            "distance 0 1 : 4; toggleNode 1 : true; distance 0 1 : NSE; toggleNode 1 : false; distance 0 1 : 4");
    }

    /** The edges 0 and 1 are the short way, 2 is the long one; 3 lies aside. */
    private static final String TWO_WAYS =
        "begin 4; addEdge 0 1 1 : 0; addEdge 1 2 1 : 1; addEdge 0 2 9 : 2; addEdge 2 3 1 : 3";

    private static void usable() {
        Sentences.of("Terms", "neither the edge nor one of its two nodes is closed");
        Sentences.test("the edge", "addEdge 0 1 1 : 0; usableEdges : 1; toggleEdge 0 : true; usableEdges : 0");
        Sentences.test("the first node", "addEdge 0 1 1 : 0; toggleNode 0 : true; usableEdges : 0",
            "toggleNode 0 : false; usableEdges : 1");
        Sentences.test("the second node", "addEdge 0 1 1 : 0; toggleNode 1 : true; usableEdges : 0",
            "toggleNode 1 : false; usableEdges : 1");
        Sentences.test("another node", "begin 3; addEdge 0 1 1 : 0; toggleNode 2 : true; usableEdges : 1");
        Sentences.test("all three, opened one by one", "addEdge 0 1 1 : 0; toggleEdge 0 : true; toggleNode 0 : true",
            "toggleNode 1 : true; usableEdges : 0; toggleNode 0 : false; usableEdges : 0; toggleEdge 0 : false",
            "usableEdges : 0; toggleNode 1 : false; usableEdges : 1");
        Sentences.test("added between closed nodes", "toggleNode 1 : true; addEdge 0 1 1 : 0; usableEdges : 0",
            "toggleNode 1 : false; usableEdges : 1");
        Sentences.of("Terms", "nothing below uses an edge that is not usable");
        for (String close : new String[] {"toggleEdge 0 : true", "toggleEdge 1 : true", "toggleNode 1 : true"}) {
            Sentences.test("one way left after " + close, TWO_WAYS, close,
                "usableEdges : " + (close.contains("Node") ? 2 : 3), "distance 0 2 : 9; countPaths 0 2 100000 : 1",
                "startPaths 0 2; nextPath : 9; pathEdge 0 : 2; nextPath : NSE; startWalks 0 2; nextWalk : 9",
                "walkEdge 0 : 2; nextWalk : NSE; disjointPaths 0 2 true : 1; disjointPaths 0 2 false : 1",
                "disjointLength 0 2 1 true : 9; disjointLength 0 2 2 false : NSE; allowedLength 0 2 : 9",
                "allowedEdges 0 2 : 1; allowedEdge 0 2 0 : 2");
        }
        for (String close : new String[] {"toggleNode 0 : true", "toggleNode 2 : true"}) {
            Sentences.test("no way left after " + close, TWO_WAYS, close, "distance 0 2 : NSE",
                "countPaths 0 2 100000 : 0; startPaths 0 2; nextPath : NSE; startWalks 0 2; nextWalk : NSE",
                "disjointPaths 0 2 true : 0; disjointLength 0 2 1 false : NSE; allowedLength 0 2 : NSE",
                "allowedEdges 0 2 : NSE; allowedEdge 0 2 0 : NSE");
        }
        Sentences.test("not for a walk back to its node", "addEdge 0 1 1 : 0; addEdge 1 0 1 : 1; toggleEdge 1 : true",
            "startWalks 0 0; nextWalk : 0; nextWalk : NSE");
    }

    private static void edgeAfterEdge() {
        Sentences.of("Terms", "each of which begins where the one before it ends");
        Sentences.test("edges that only meet are no walk", "begin 4; addEdge 0 1 1 : 0; addEdge 2 1 1 : 1",
            "addEdge 2 3 1 : 2; distance 0 3 : NSE; distance 0 2 : NSE; countPaths 0 3 100000 : 0",
            "allowedLength 0 3 : NSE; disjointPaths 0 3 false : 0; startWalks 0 3; nextWalk : NSE");
        Sentences.of("Terms", "the first one begins at the one node, the last one ends at the other");
        Sentences.test("first and last edge", "begin 4; addEdge 2 3 1 : 0; addEdge 1 2 1 : 1; addEdge 0 1 1 : 2",
            "distance 0 3 : 3; startWalks 0 3; nextWalk : 3; walkEdge 0 : 2; walkEdge 1 : 1; walkEdge 2 : 0",
            "startWalks 1 3; nextWalk : 2; walkEdge 0 : 1; startWalks 0 2; nextWalk : 2; walkEdge 1 : 1",
            "walkEdge 2 : NSE");
    }

    private static void sumOfLengths() {
        Sentences.of("Terms", "the sum of the lengths of its edges");
        Sentences.test("one edge of the least and of the greatest length",
            "addEdge 0 1 1 : 0; addEdge 1 0 1000 : 1; distance 0 1 : 1; distance 1 0 : 1000; allowedLength 1 0 : 1000",
            "startWalks 0 0; nextWalk : 0; nextWalk : 1001; nextWalk : 2002; startPaths 1 0; nextPath : 1000",
            "disjointLength 1 0 1 true : 1000; countPaths 1 0 999 : 0; countPaths 1 0 1000 : 1");
        Sentences.test("nine edges of different lengths", "begin 10; addEdge 0 1 1 : 0; addEdge 1 2 2 : 1",
            "addEdge 2 3 4 : 2; addEdge 3 4 8 : 3; addEdge 4 5 16 : 4; addEdge 5 6 32 : 5; addEdge 6 7 64 : 6",
            "addEdge 7 8 128 : 7; addEdge 8 9 256 : 8; distance 0 9 : 511; startPaths 0 9; nextPath : 511",
            "startWalks 0 9; nextWalk : 511; allowedLength 0 9 : 511; distance 3 5 : 24",
            "disjointLength 0 9 1 true : 511; countPaths 0 9 510 : 0; countPaths 0 9 511 : 1");
    }

    private static void sameNode() {
        Sentences.of("Terms", "the list without edges is a walk, too, of length 0");
        Sentences.test("in a network without edges", "distance 0 0 : 0; distance 1 1 : 0; startWalks 1 1; nextWalk : 0",
            "walkEdges : 0; walkEdge 0 : NSE; nextWalk : NSE; allowedLength 0 0 : 0; allowedEdges 0 0 : 0",
            "allowedEdge 0 0 0 : NSE");
        Sentences.test("ahead of walks with edges", "addEdge 0 1 1 : 0; addEdge 1 0 1 : 1; distance 0 0 : 0",
            "allowedLength 0 0 : 0; allowedEdges 1 1 : 0; startWalks 0 0; nextWalk : 0; walkEdges : 0; nextWalk : 2",
            "walkEdges : 2; nextWalk : 4; walkEdges : 4");
        Sentences.of("Terms", "also if the node is closed");
        Sentences.test("closed", "addEdge 0 1 1 : 0; addEdge 1 0 1 : 1; toggleNode 0 : true; distance 0 0 : 0",
            "startWalks 0 0; nextWalk : 0; walkEdges : 0; walkEdge 0 : NSE; nextWalk : NSE; walksDrawn : 1",
            "allowedLength 0 0 : 0; allowedEdges 0 0 : 0; allowedEdge 0 0 0 : NSE");
        Sentences.of("Terms", "If both nodes are the same");
        Sentences.test("not between two nodes", "distance 0 1 : NSE; startWalks 0 1; nextWalk : NSE",
            "allowedLength 0 1 : NSE; allowedEdges 0 1 : NSE");
    }

    private static void noNodeTwice() {
        Sentences.of("Terms", "in which no node is visited twice");
        Sentences.test("not the first one", "begin 3; addEdge 0 1 1 : 0; addEdge 1 0 1 : 1; addEdge 0 2 1 : 2",
            "addEdge 1 2 5 : 3; countPaths 0 2 100000 : 2; startPaths 0 2; nextPath : 1; nextPath : 6; nextPath : NSE");
        Sentences.test("not the last one", "begin 3; addEdge 0 1 1 : 0; addEdge 1 2 1 : 1; addEdge 2 1 1 : 2",
            "countPaths 0 1 100000 : 1; startPaths 0 1; nextPath : 1; nextPath : NSE");
        Sentences.test("not one between", "begin 4; addEdge 0 1 1 : 0; addEdge 1 2 1 : 1; addEdge 2 1 1 : 2",
            "addEdge 1 3 1 : 3; countPaths 0 3 100000 : 1; startPaths 0 3; nextPath : 2; nextPath : NSE",
            "disjointPaths 0 3 false : 1");
        Sentences.test("each of ten nodes once", "begin 10; addEdge 0 1 1 : 0; addEdge 1 2 1 : 1; addEdge 2 3 1 : 2",
            "addEdge 3 4 1 : 3; addEdge 4 5 1 : 4; addEdge 5 6 1 : 5; addEdge 6 7 1 : 6; addEdge 7 8 1 : 7",
            "addEdge 8 9 1 : 8; addEdge 8 0 1 : 9; addEdge 8 7 1 : 10; countPaths 0 9 100000 : 1; startPaths 0 9",
            "nextPath : 9; pathEdges : 9; nextPath : NSE; countPaths 1 0 8 : 1; countPaths 1 0 7 : 0");
        Sentences.of("Terms", "between two different nodes");
        Sentences.test("not from a node to itself", "addEdge 0 1 1 : 0; addEdge 1 0 1 : 1; startPaths 0 0 : IAE",
            "countPaths 1 1 5 : IAE; disjointPaths 0 0 true : IAE; disjointLength 1 1 1 false : IAE");
    }

    private static void order() {
        Sentences.of("Terms", "Walks are ordered by length");
        Sentences.test("the shorter one first, also by 1 and with higher edges and more of them", "begin 3",
            "addEdge 0 2 1000 : 0; addEdge 0 1 500 : 1; addEdge 1 2 499 : 2; startPaths 0 2; nextPath : 999",
            "pathEdges : 2; nextPath : 1000; pathEdge 0 : 0; startWalks 0 2; nextWalk : 999; walkEdge 0 : 1",
            "nextWalk : 1000; allowedEdges 0 2 : 2");
        Sentences.of("Terms", "the lower edge number at the first place where they differ");
        Sentences.test("at the first place, though all later ones are higher", "begin 3; addEdge 0 1 1 : 0",
            "addEdge 0 1 1 : 1; addEdge 1 2 1 : 2; addEdge 1 2 1 : 3; startPaths 0 2; nextPath : 2; pathEdge 0 : 0",
            "pathEdge 1 : 2; nextPath : 2; pathEdge 0 : 0; pathEdge 1 : 3; nextPath : 2; pathEdge 0 : 1",
            "pathEdge 1 : 2; nextPath : 2; pathEdge 0 : 1; pathEdge 1 : 3; startWalks 0 2; nextWalk : 2; nextWalk : 2",
            "walkEdge 0 : 0; walkEdge 1 : 3; nextWalk : 2; walkEdge 0 : 1; walkEdge 1 : 2; toggleTurn 0 2 : true",
            "allowedEdge 0 2 0 : 0; allowedEdge 0 2 1 : 3; toggleTurn 0 3 : true; allowedEdge 0 2 0 : 1",
            "allowedEdge 0 2 1 : 2");
        Sentences.test("whichever has more edges", "begin 4; addEdge 0 1 1 : 0; addEdge 0 3 3 : 1; addEdge 1 2 1 : 2",
            "addEdge 2 3 1 : 3; addEdge 0 2 2 : 4; startPaths 0 3; nextPath : 3; pathEdges : 3; nextPath : 3",
            "pathEdges : 1; nextPath : 3; pathEdges : 2; nextPath : NSE; startWalks 0 3; nextWalk : 3; walkEdges : 3",
            "nextWalk : 3; walkEdges : 1; nextWalk : 3; walkEdges : 2; allowedEdges 0 3 : 3; toggleEdge 0 : true",
            "allowedEdges 0 3 : 1");
        Sentences.test("numbers, not digits: 9 before 10, 15 before 16, 2 before 23", Sentences.edges(0, 1, 5, 0, 23),
            "setLength 2 1 : 5; setLength 9 1 : 5; setLength 10 1 : 5; setLength 15 1 : 5; setLength 16 1 : 5",
            "setLength 23 1 : 5; startPaths 0 1; nextPath : 1; pathEdge 0 : 2; nextPath : 1; pathEdge 0 : 9",
            "nextPath : 1; pathEdge 0 : 10; nextPath : 1; pathEdge 0 : 15; nextPath : 1; pathEdge 0 : 16; nextPath : 1",
            "pathEdge 0 : 23; nextPath : 5; pathEdge 0 : 0; startWalks 0 1; nextWalk : 1; walkEdge 0 : 2; nextWalk : 1",
            "walkEdge 0 : 9; nextWalk : 1; walkEdge 0 : 10; toggleEdge 2 : true; allowedEdge 0 1 0 : 9",
            "toggleEdge 9 : true; allowedEdge 0 1 0 : 10");
        Sentences.test("at the ninth place", "begin 10; addEdge 0 1 9 : 0; addEdge 1 2 9 : 1; addEdge 2 3 9 : 2",
            "addEdge 3 4 9 : 3; addEdge 4 5 9 : 4; addEdge 5 6 9 : 5; addEdge 6 7 9 : 6; addEdge 7 8 9 : 7",
            "addEdge 8 9 9 : 8; addEdge 8 9 9 : 9; startPaths 0 9; nextPath : 81; pathEdge 8 : 8; nextPath : 81",
            "pathEdge 8 : 9; nextPath : NSE; startWalks 0 9; nextWalk : 81; walkEdge 8 : 8; nextWalk : 81",
            "walkEdge 8 : 9; nextWalk : NSE; allowedEdge 0 9 8 : 8");
        Sentences.test("walks with loops", "addEdge 0 1 1 : 0; addEdge 1 0 1 : 1; addEdge 1 0 1 : 2; startWalks 0 1",
            "nextWalk : 1; nextWalk : 3; walkEdge 1 : 1; nextWalk : 3; walkEdge 1 : 2; nextWalk : 5; walkEdge 1 : 1",
            "walkEdge 3 : 1; nextWalk : 5; walkEdge 1 : 1; walkEdge 3 : 2; nextWalk : 5; walkEdge 1 : 2",
            "walkEdge 3 : 1; nextWalk : 5; walkEdge 3 : 2; nextWalk : 7");
    }

    private static final String THREE_PATHS = "addEdge 0 1 3 : 0; addEdge 0 1 2 : 1; addEdge 0 1 4 : 2";

    private static void fromTheBeginning() {
        Sentences.of("Terms", "from their beginning, in that order");
        Sentences.test("paths", THREE_PATHS, "startPaths 0 1; pathsDrawn : 0; nextPath : 2; nextPath : 3; nextPath : 4",
            "nextPath : NSE");
        Sentences.test("walks", THREE_PATHS, "startWalks 0 1; walksDrawn : 0; nextWalk : 2; nextWalk : 3; nextWalk : 4",
            "nextWalk : NSE");
    }

    private static void sideBySide() {
        Sentences.of("Terms", "Both can go on side by side");
        Sentences.test("in turns", THREE_PATHS, "startPaths 0 1; nextPath : 2; startWalks 0 1; pathsDrawn : 1",
            "nextPath : 3; walksDrawn : 0; nextWalk : 2; pathEdge 0 : 0; walkEdge 0 : 1; nextWalk : 3; nextWalk : 4",
            "nextPath : 4; walksDrawn : 3; pathsDrawn : 3; nextPath : NSE; walkEdge 0 : 2; nextWalk : NSE",
            "pathEdge 0 : 2");
        Sentences.test("between other nodes", THREE_PATHS, "addEdge 1 0 9 : 3; startWalks 1 0; startPaths 0 1",
            "nextWalk : 9; nextPath : 2; nextWalk : 20; walkEdges : 3; pathEdges : 1; nextPath : 3; walksDrawn : 2");
        Sentences.test("one alone", THREE_PATHS, "startPaths 0 1; walksDrawn : ISE; nextWalk : ISE; startWalks 0 1",
            "startPaths 1 0; nextWalk : 2; nextPath : NSE; begin 2; startWalks 0 1; pathsDrawn : ISE; nextPath : ISE");
    }

    /** Edge 1 and node 2 are closed; edge 2 is not on the way from 0 to 1, nor node 3 on any. */
    private static final String DRAWING = "begin 4; addEdge 0 1 3 : 0; addEdge 0 1 5 : 1; addEdge 1 0 7 : 2; toggleEdge 1 : true; "
        + "toggleNode 2 : true; startPaths 0 1; startWalks 0 1";

    private static void changesEndBoth() {
        Sentences.of("Terms", "Each change of the network");
        String[] changes = {"begin 4", "begin 2", "addEdge 0 1 9 : 3", "addEdge 2 3 9 : 3", "setLength 0 4 : 3", "setLength 0 3 : 3",
            "setLength 2 9 : 7", "setLength 1 9 : 5", "toggleEdge 0 : true", "toggleEdge 1 : false", "toggleEdge 2 : true",
            "toggleNode 0 : true", "toggleNode 1 : true", "toggleNode 2 : false", "toggleNode 3 : true"};
        for (String change : changes) {
            Sentences.test(change + " before the first is drawn", DRAWING, change, "nextPath : ISE; nextWalk : ISE");
            Sentences.test(change + " after one is drawn", DRAWING, "nextPath : 3; nextWalk : 3", change,
                "pathsDrawn : ISE; pathEdges : ISE; pathEdge 0 : ISE; walksDrawn : ISE; walkEdges : ISE",
                "walkEdge 0 : ISE; nextPath : ISE; nextWalk : ISE");
        }
        Sentences.of("Terms", "so that they have to be started again");
        Sentences.test("each by itself", DRAWING, "toggleNode 3 : true; startPaths 0 1; nextPath : 3; nextWalk : ISE",
            "startWalks 0 1; nextWalk : 3; nextPath : NSE");
        Sentences.test("a change that is undone ends them, too", DRAWING, "toggleNode 3 : true; toggleNode 3 : false",
            "nextPath : ISE; nextWalk : ISE");
    }

    private static void turnsEndNothing() {
        Sentences.of("Terms", "an allowed or forbidden turn does not matter to them");
        Sentences.test("forbidden and allowed while drawing", "addEdge 0 1 1 : 0; addEdge 1 0 1 : 1; addEdge 0 1 4 : 2",
            "startPaths 0 1; startWalks 0 1; nextPath : 1; nextWalk : 1; toggleTurn 0 1 : true; nextPath : 4",
            "nextWalk : 3; walkEdge 1 : 1; toggleTurn 0 1 : false; pathsDrawn : 2; walksDrawn : 2; nextWalk : 4",
            "nextPath : NSE; pathEdge 0 : 2");
        Sentences.test("forbidden before the start", "begin 3; addEdge 0 1 1 : 0; addEdge 1 2 1 : 1",
            "toggleTurn 0 1 : true; startPaths 0 2; startWalks 0 2; nextPath : 2; nextWalk : 2");
    }

    private static void startedAgain() {
        Sentences.of("Terms", "A start that is called again starts from the beginning");
        Sentences.test("paths", THREE_PATHS, "startPaths 0 1; nextPath : 2; nextPath : 3; startPaths 0 1",
            "pathsDrawn : 0; pathEdges : NSE; pathEdge 0 : NSE; nextPath : 2; pathEdge 0 : 1");
        Sentences.test("walks", THREE_PATHS, "startWalks 0 1; nextWalk : 2; nextWalk : 3; startWalks 0 1",
            "walksDrawn : 0; walkEdges : NSE; walkEdge 0 : NSE; nextWalk : 2; walkEdge 0 : 1");
        Sentences.test("after all", THREE_PATHS, "startPaths 0 1; nextPath : 2; nextPath : 3; nextPath : 4",
            "nextPath : NSE; startPaths 0 1; nextPath : 2; startWalks 0 1; nextWalk : 2; nextWalk : 3; nextWalk : 4",
            "nextWalk : NSE; startWalks 0 1; nextWalk : 2; pathsDrawn : 1");
        Sentences.test("between other nodes", THREE_PATHS, "addEdge 1 0 8 : 3; startPaths 0 1; nextPath : 2",
            "startPaths 1 0; nextPath : 8; nextPath : NSE; startWalks 0 1; nextWalk : 2; startWalks 1 1; nextWalk : 0",
            "nextWalk : 10");
        Sentences.test("the other draw stays", THREE_PATHS, "startPaths 0 1; nextPath : 2; startWalks 0 1",
            "nextWalk : 2; startPaths 0 1; walksDrawn : 1; nextPath : 2; startWalks 0 1; pathsDrawn : 1; nextPath : 3");
    }

    private static void turnIsAPair() {
        Sentences.of("Terms", "of which the second one begins where the first one ends");
        Sentences.test("the pair has an order", "addEdge 0 1 1 : 0; addEdge 1 0 1 : 1; toggleTurn 0 1 : true",
            "toggleTurn 1 0 : true; toggleTurn 0 1 : false; toggleTurn 1 0 : false");
        Sentences.test("no other pair", "begin 3; addEdge 0 1 1 : 0; addEdge 1 2 1 : 1; addEdge 2 1 1 : 2",
            "toggleTurn 1 0 : IAE; toggleTurn 0 0 : IAE; toggleTurn 0 2 : IAE; toggleTurn 2 0 : IAE",
            "toggleTurn 0 1 : true; toggleTurn 1 2 : true; toggleTurn 2 1 : true");
    }

    private static void allowedAtFirst() {
        Sentences.of("Terms", "It is allowed at first, and can be forbidden");
        Sentences.test("each new edge", "begin 3; addEdge 0 1 1 : 0; addEdge 1 2 1 : 1; allowedLength 0 2 : 2",
            "toggleTurn 0 1 : true; allowedLength 0 2 : NSE; addEdge 0 1 5 : 2; allowedLength 0 2 : 6",
            "addEdge 1 2 1 : 3; allowedLength 0 2 : 2; allowedEdge 0 2 1 : 3");
        Sentences.test("closing, opening and another length leave it forbidden", "begin 3; addEdge 0 1 1 : 0",
            "addEdge 1 2 1 : 1; toggleTurn 0 1 : true; toggleEdge 0 : true; toggleEdge 0 : false; toggleNode 1 : true",
            "toggleNode 1 : false; setLength 1 4 : 1; allowedLength 0 2 : NSE; toggleTurn 0 1 : false");
    }

    private static void allowedWalk() {
        Sentences.of("Terms", "no edge of it is followed by another one with which it makes a forbidden turn");
        Sentences.test("the last turn", "begin 4; addEdge 0 1 1 : 0; addEdge 1 2 1 : 1; addEdge 2 3 1 : 2",
            "toggleTurn 1 2 : true; allowedLength 0 3 : NSE; allowedLength 0 2 : 2; allowedLength 2 3 : 1");
        Sentences.test("the first turn", "begin 4; addEdge 0 1 1 : 0; addEdge 1 2 1 : 1; addEdge 2 3 1 : 2",
            "toggleTurn 0 1 : true; allowedLength 0 3 : NSE; allowedLength 1 3 : 2; allowedLength 0 1 : 1");
        Sentences.test("one edge makes no turn", "addEdge 0 1 1 : 0; addEdge 1 0 1 : 1; toggleTurn 0 1 : true",
            "toggleTurn 1 0 : true; allowedLength 0 1 : 1; allowedLength 1 0 : 1; allowedLength 0 0 : 0");
        Sentences.test("two edges of it that do not follow each other may", "begin 4; addEdge 0 1 1 : 0",
            "addEdge 1 2 1 : 1; addEdge 1 3 1 : 2; addEdge 3 1 1 : 3; toggleTurn 0 1 : true; allowedLength 0 2 : 4",
            "allowedEdges 0 2 : 4; allowedEdge 0 2 3 : 1");
    }

    private static void turnsMatterElsewhereNot() {
        Sentences.of("Terms", "Turns matter only where allowed walks are spoken of");
        Sentences.test("one way with a forbidden turn", "begin 3; addEdge 0 1 1 : 0; addEdge 1 2 1 : 1",
            "toggleTurn 0 1 : true; allowedLength 0 2 : NSE; distance 0 2 : 2; countPaths 0 2 2 : 1; startPaths 0 2",
            "nextPath : 2; startWalks 0 2; nextWalk : 2; disjointPaths 0 2 true : 1; disjointLength 0 2 1 true : 2",
            "usableEdges : 2; edges : 2");
    }

    private static void illegalArguments() {
        Sentences.of("Terms", "for a node or an edge that does not exist");
        String[] calls = {"addEdge ? 0 1", "addEdge 0 ? 1", "toggleNode ?", "distance ? 0", "distance 0 ?", "startPaths ? 0",
            "startPaths 0 ?", "countPaths ? 0 1", "countPaths 0 ? 1", "startWalks ? 0", "startWalks 0 ?", "disjointPaths ? 0 true",
            "disjointPaths 0 ? true", "disjointLength ? 0 1 true", "disjointLength 0 ? 1 true", "allowedLength ? 0",
            "allowedLength 0 ?", "allowedEdges ? 0", "allowedEdges 0 ?", "allowedEdge ? 0 0", "allowedEdge 0 ? 0",
            "setLength ? 1", "toggleEdge ?", "toggleTurn ? 1", "toggleTurn 0 ?"};
        for (String call : calls) {
            // Three nodes and three edges: 3 is the first number that is none. 10, 24, 32 and 64 are where a bit may wrap.
            Sentences.refuses("begin 3; addEdge 0 1 1 : 0; addEdge 1 0 1 : 1; addEdge 1 2 1 : 2", call,
                "-1", "3", "10", "24", "32", "33", "64", "-32", LOW, HIGH);
        }
        Sentences.of("Terms", "for a number out of range");
        Sentences.test("one below, one above", "begin 1 : IAE; begin 11 : IAE; addEdge 0 1 0 : IAE",
            "addEdge 0 1 1001 : IAE; addEdge 0 1 1 : 0; setLength 0 0 : IAE; setLength 0 1001 : IAE",
            "countPaths 0 1 -1 : IAE; countPaths 0 1 100001 : IAE; disjointLength 0 1 0 true : IAE",
            "disjointLength 0 1 5 true : IAE");
    }

    private static void orderOfExceptions() {
        Sentences.of("Terms", "IllegalArgumentException goes first");
        Sentences.test("ahead of IllegalStateException", Sentences.edges(0, 1, 1, 0, 23), "addEdge 2 0 1 : IAE",
            "addEdge 0 2 1 : IAE; addEdge -1 1 1 : IAE; addEdge 0 0 1 : IAE; addEdge 0 1 0 : IAE",
            "addEdge 0 1 1001 : IAE; addEdge 0 1 1 : ISE");
        Sentences.test("ahead of NoSuchElementException", "begin 3; distance 0 3 : IAE; distance 3 0 : IAE",
            "disjointLength 0 1 0 true : IAE; disjointLength 0 1 5 true : IAE; disjointLength 0 0 1 true : IAE",
            "disjointLength 0 3 1 true : IAE; disjointLength 3 0 1 true : IAE; allowedLength 0 3 : IAE",
            "allowedLength 3 0 : IAE; allowedEdges 0 3 : IAE; allowedEdges 3 0 : IAE; allowedEdge 0 3 -1 : IAE",
            "allowedEdge 3 0 5 : IAE; allowedEdge 3 3 0 : IAE; distance 0 1 : NSE; disjointLength 0 1 1 true : NSE",
            "allowedEdge 0 1 -1 : NSE");
        Sentences.of("Terms", "then IllegalStateException, then NoSuchElementException");
        Sentences.test("nothing started and nothing there",
            "nextPath : ISE; pathEdges : ISE; pathEdge 0 : ISE; pathEdge -1 : ISE; pathEdge " + HIGH + " : ISE",
            "nextWalk : ISE; walkEdges : ISE; walkEdge 0 : ISE; walkEdge -1 : ISE; walkEdge " + LOW + " : ISE");
        Sentences.test("started and nothing there", "startPaths 0 1; pathEdges : NSE; pathEdge 0 : NSE; nextPath : NSE",
            "startWalks 0 1; walkEdges : NSE; walkEdge 0 : NSE; nextWalk : NSE");
        Caller caller = new Caller(new Pathparade());
        Sentences.test("fifty walks that are all", caller, "begin 3", Sentences.edges(0, 1, 1, 0, 4),
            Sentences.edges(1, 2, 1, 5, 14), "startWalks 0 2");
        for (int walk = 0; walk < 50; walk++) {
            Sentences.test("fifty walks that are all", caller, "nextWalk : 2");
        }
        Sentences.test("fifty walks that are all", caller, "nextWalk : ISE; nextWalk : ISE; walksDrawn : 50");
    }
}
