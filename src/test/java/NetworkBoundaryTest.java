/** The boundary cases of promises 1 to 11, each sentence with tests of its own. */
final class NetworkBoundaryTest {
    private static final String LOW = Sentences.LOW;
    private static final String HIGH = Sentences.HIGH;
    /** Three nodes, and edges 0 and 1. */
    private static final String LINE = "begin 3; addEdge 0 1 3 : 0; addEdge 1 2 4 : 1";

    public static void main(String[] args) {
        newObject();
        begin();
        addEdge();
        addEdgeArguments();
        addEdgeWhenFull();
        setLength();
        setLengthArguments();
        toggleEdge();
        toggleNode();
        toggleTurn();
        toggleTurnArguments();
        nodes();
        edges();
        usableEdges();
        distance();
        Sentences.end("NetworkBoundaryTest", 1, 11);
    }

    private static void newObject() {
        Sentences.of(1, "2 nodes without edges");
        Sentences.test("two nodes", "nodes : 2; toggleNode 0 : true; toggleNode 1 : true; toggleNode 2 : IAE");
        Sentences.test("no edges", "edges : 0; usableEdges : 0; toggleEdge 0 : IAE; setLength 0 1 : IAE",
            "toggleTurn 0 0 : IAE");
        Sentences.test("nothing closed", "addEdge 0 1 1 : 0; addEdge 1 0 1 : 1; usableEdges : 2");
        Sentences.test("no forbidden turn", "addEdge 0 1 1 : 0; addEdge 1 0 1 : 1; toggleTurn 0 1 : true",
            "toggleTurn 1 0 : true");
        Sentences.test("nothing started", "pathsDrawn : ISE; walksDrawn : ISE; nextPath : ISE; nextWalk : ISE");
        Caller first = new Caller(new Pathparade());
        Sentences.test("two objects have nothing in common", first, "begin 5; addEdge 0 1 1 : 0; addEdge 1 2 1 : 1",
            "startPaths 0 2");
        Sentences.test("two objects have nothing in common", "nodes : 2; edges : 0; pathsDrawn : ISE",
            "addEdge 1 0 9 : 0");
        Sentences.test("two objects have nothing in common", first, "nodes : 5; edges : 2; nextPath : 2",
            "distance 1 0 : NSE");
    }

    private static void begin() {
        Sentences.of(2, "Starts a new network without edges");
        Sentences.test("after a full one", Sentences.edges(0, 1, 1, 0, 23), "addEdge 0 1 1 : ISE; begin 2; edges : 0",
            "usableEdges : 0",
            "distance 0 1 : NSE; toggleEdge 0 : IAE; startPaths 0 1; nextPath : NSE; " + Sentences.edges(1, 0, 2, 0, 23),
            "distance 1 0 : 2");
        Sentences.test("as many nodes as before", "begin 3; addEdge 0 1 1 : 0; begin 3; edges : 0; distance 0 1 : NSE",
            "setLength 0 1 : IAE");
        Sentences.test("fewer nodes than before", "begin 10; addEdge 9 8 1 : 0; begin 2; nodes : 2; distance 1 2 : IAE",
            "toggleNode 9 : IAE");
        Sentences.test("more nodes than before", "begin 10; nodes : 10; addEdge 9 8 1 : 0; distance 9 8 : 1");
        Sentences.of(2, "in which nothing is closed");
        Sentences.test("edges that were closed", Sentences.edges(0, 1, 1, 0, 23), "toggleEdge 0 : true",
            "toggleEdge 23 : true; begin 2", Sentences.edges(0, 1, 1, 0, 23), "usableEdges : 24; toggleEdge 0 : true",
            "toggleEdge 23 : true");
        Sentences.test("nodes that were closed", "begin 10; toggleNode 0 : true; toggleNode 9 : true; begin 10",
            "addEdge 0 9 1 : 0; usableEdges : 1; toggleNode 0 : true; toggleNode 9 : true");
        Sentences.test("nodes that were closed, over a network without them", "begin 10; toggleNode 9 : true; begin 2",
            "begin 10; addEdge 9 0 1 : 0; usableEdges : 1; toggleNode 9 : true");
        Sentences.of(2, "no turn is forbidden");
        Sentences.test("turns that were forbidden", LINE, "toggleTurn 0 1 : true; begin 3; addEdge 0 1 1 : 0",
            "addEdge 1 2 1 : 1; allowedLength 0 2 : 2; toggleTurn 0 1 : true");
        Sentences.test("the turn of the highest edges", "begin 3", Sentences.edges(0, 1, 1, 0, 22),
            "addEdge 1 2 1 : 23; toggleTurn 22 23 : true; begin 3", Sentences.edges(0, 1, 1, 0, 22),
            "addEdge 1 2 1 : 23; toggleTurn 22 23 : true; toggleTurn 0 23 : true");
        Sentences.of(2, "nodes: number of nodes, 2 to 10");
        for (int nodes = 2; nodes <= 10; nodes++) {
            int last = nodes - 1;
            Sentences.test(nodes + " nodes",
                "begin " + nodes + "; nodes : " + nodes + "; addEdge " + last + " 0 5 : 0; distance " + last + " 0 : 5",
                "addEdge 0 " + nodes + " 1 : IAE; toggleNode " + last + " : true; toggleNode " + nodes + " : IAE");
        }
        Sentences.of(2, "if nodes is out of range");
        Sentences.refuses("nodes : 2", "begin ?", "1", "11", "0", "-1", "-2", "12", "32", "34", LOW, HIGH);
        Sentences.test("the network stays", LINE, "begin 1 : IAE; begin 11 : IAE; nodes : 3; edges : 2",
            "distance 0 2 : 7");
    }

    private static void addEdge() {
        Sentences.of(3, "Adds an edge, which is open");
        Sentences.test("open", "addEdge 0 1 1 : 0; usableEdges : 1; toggleEdge 0 : true");
        Sentences.test("the last one", Sentences.edges(0, 1, 5, 0, 22), "addEdge 0 1 1 : 23; usableEdges : 24",
            "distance 0 1 : 1; toggleEdge 23 : true");
        Sentences.test("next to closed ones", "addEdge 0 1 1 : 0; toggleEdge 0 : true; addEdge 0 1 5 : 1",
            "distance 0 1 : 5; usableEdges : 1; toggleEdge 1 : true");
        Sentences.test("open, but not usable between closed nodes", "toggleNode 0 : true; addEdge 0 1 1 : 0",
            "usableEdges : 0; toggleNode 0 : false; usableEdges : 1; toggleEdge 0 : true");
        Sentences.of(3, "from: node at which it begins");
        Sentences.test("the first and the last", "begin 10; addEdge 0 5 1 : 0; addEdge 9 5 2 : 1; distance 0 5 : 1",
            "distance 9 5 : 2; distance 5 9 : NSE");
        Sentences.of(3, "to: node at which it ends, another one than from");
        Sentences.test("the first and the last", "begin 10; addEdge 5 0 1 : 0; addEdge 5 9 2 : 1; distance 5 0 : 1",
            "distance 5 9 : 2; distance 9 5 : NSE");
        Sentences.test("next to from on both sides", "begin 3; addEdge 1 0 1 : 0; addEdge 1 2 1 : 1",
            "addEdge 1 1 1 : IAE");
        Sentences.of(3, "length: 1 to 1000");
        Sentences.test("the least", "addEdge 0 1 1 : 0; distance 0 1 : 1; setLength 0 2 : 1");
        Sentences.test("the greatest", "addEdge 0 1 1000 : 0; distance 0 1 : 1000; setLength 0 2 : 1000");
        Sentences.of(3, "Returns number of the edge.");
        Sentences.test("from 0 to 23", Sentences.edges(0, 1, 9, 0, 23));
        Sentences.test("closed edges count", "addEdge 0 1 1 : 0; toggleEdge 0 : true; toggleNode 1 : true",
            "addEdge 0 1 1 : 1; addEdge 1 0 1 : 2");
        Sentences.test("refused ones do not count", "addEdge 0 1 1 : 0; addEdge 0 0 1 : IAE; addEdge 0 1 0 : IAE",
            "addEdge 0 2 1 : IAE; addEdge 0 1 1 : 1");
    }

    private static void addEdgeArguments() {
        Sentences.of(3, "if from or to is not a node");
        Sentences.refuses("nodes : 2", "addEdge ? 0 1", "-1", "2", "3", "32", "33", LOW, HIGH);
        Sentences.refuses("nodes : 2", "addEdge 0 ? 1", "-1", "2", "3", "32", "33", LOW, HIGH);
        Sentences.refuses("begin 10", "addEdge ? 0 1", "-1", "10", "11", "32", "41", LOW, HIGH);
        Sentences.refuses("begin 10", "addEdge 0 ? 1", "-1", "10", "11", "32", "41", LOW, HIGH);
        Sentences.test("both", "addEdge 2 3 1 : IAE; addEdge -1 2 1 : IAE; addEdge 2 2 1 : IAE; edges : 0");
        Sentences.test("a node of the network before", "begin 10; begin 3; addEdge 3 0 1 : IAE; addEdge 0 3 1 : IAE",
            "addEdge 2 0 1 : 0");
        Sentences.of(3, "both are the same");
        Sentences.refuses("begin 10", "addEdge ? ? 1", "0", "1", "5", "9");
        Sentences.of(3, "length is out of range");
        Sentences.refuses("begin 2", "addEdge 0 1 ?", "0", "1001", "-1", "1002", "65537", LOW, HIGH);
    }

    private static void addEdgeWhenFull() {
        Sentences.of(3, "if there are 24 edges");
        Sentences.test("the 24th is added, the 25th is not", Sentences.edges(0, 1, 1, 0, 22), "edges : 23",
            "addEdge 1 0 1 : 23; addEdge 0 1 1 : ISE; addEdge 1 0 1000 : ISE; edges : 24");
        Sentences.test("closed edges count", Sentences.edges(0, 1, 1, 0, 23), "toggleEdge 0 : true",
            "toggleNode 1 : true; usableEdges : 0; addEdge 0 1 1 : ISE");
        Sentences.test("not in the next network", Sentences.edges(0, 1, 1, 0, 23), "begin 2; addEdge 0 1 1 : 0");
    }

    private static void setLength() {
        Sentences.of(4, "Sets the length of an edge.");
        Sentences.test("of this one alone", LINE, "setLength 0 9 : 3; distance 0 1 : 9; distance 1 2 : 4",
            "setLength 1 5 : 4; distance 0 2 : 14");
        Sentences.test("of a closed one", LINE, "toggleEdge 0 : true; setLength 0 9 : 3; distance 0 1 : NSE",
            "toggleEdge 0 : false; distance 0 1 : 9; toggleNode 2 : true; setLength 1 1 : 4; distance 1 2 : NSE",
            "toggleNode 2 : false; distance 1 2 : 1");
        Sentences.test("it does not open or close", LINE, "setLength 0 9 : 3; toggleEdge 0 : true; setLength 0 8 : 9",
            "toggleEdge 0 : false");
        Sentences.of(4, "also if the length stays the same");
        Sentences.test("both draws end", LINE, "startPaths 0 1; startWalks 0 1; nextPath : 3; setLength 0 3 : 3",
            "pathsDrawn : ISE; walksDrawn : ISE; nextPath : ISE; nextWalk : ISE");
        Sentences.test("both draws end with a closed edge", LINE, "toggleEdge 1 : true; startPaths 0 1; startWalks 0 1",
            "setLength 1 4 : 4; nextPath : ISE; nextWalk : ISE");
        Sentences.of(4, "Returns the length before.");
        Sentences.test("that of addEdge, then that of setLength", "addEdge 0 1 1000 : 0; setLength 0 1 : 1000",
            "setLength 0 1 : 1; setLength 0 7 : 1; setLength 0 1000 : 7; setLength 0 1 : 1000");
        Sentences.test("not a refused one", "addEdge 0 1 5 : 0; setLength 0 0 : IAE; setLength 0 1001 : IAE",
            "setLength 0 6 : 5");
    }

    private static void setLengthArguments() {
        Sentences.of(4, "edge: an edge");
        Sentences.test("the first and the last of 24", Sentences.edges(0, 1, 8, 0, 23), "setLength 0 7 : 8",
            "distance 0 1 : 7; setLength 23 6 : 8; distance 0 1 : 6; setLength 0 1 : 7");
        Sentences.of(4, "length: 1 to 1000");
        Sentences.test("the least and the greatest", LINE, "setLength 0 1 : 3; distance 0 1 : 1; setLength 0 1000 : 1",
            "distance 0 1 : 1000");
        Sentences.of(4, "if edge is not an edge");
        Sentences.refuses("edges : 0", "setLength ? 5", "0", "-1", "1", "23", "24");
        Sentences.refuses(LINE, "setLength ? 5", "2", "-1", "23", "24", "32", LOW, HIGH);
        Sentences.refuses(Sentences.edges(0, 1, 8, 0, 23), "setLength ? 5", "24", "-1", "25", "32", "56", LOW, HIGH);
        Sentences.test("an edge of the network before", LINE, "begin 3; setLength 0 5 : IAE; addEdge 0 1 3 : 0",
            "setLength 1 5 : IAE; setLength 0 5 : 3");
        Sentences.of(4, "or length is out of range");
        Sentences.refuses(LINE, "setLength 1 ?", "0", "1001", "-1", "1002", "65537", LOW, HIGH);
    }

    private static void toggleEdge() {
        Sentences.of(5, "Closes an open edge, or opens a closed one.");
        Sentences.test("over and over", "addEdge 0 1 5 : 0; toggleEdge 0 : true; distance 0 1 : NSE",
            "toggleEdge 0 : false; distance 0 1 : 5; toggleEdge 0 : true; usableEdges : 0; toggleEdge 0 : false",
            "usableEdges : 1");
        Sentences.test("this one alone", Sentences.edges(0, 1, 1, 0, 23), "toggleEdge 11 : true; usableEdges : 23",
            "toggleEdge 10 : true; toggleEdge 12 : true; usableEdges : 21; toggleEdge 11 : false; usableEdges : 22");
        Sentences.of(5, "edge: an edge");
        Sentences.test("the first and the last of 24", Sentences.edges(0, 1, 1, 0, 23), "toggleEdge 0 : true",
            "usableEdges : 23; toggleEdge 23 : true; usableEdges : 22; toggleEdge 0 : false; usableEdges : 23",
            "toggleEdge 23 : false; usableEdges : 24");
        Sentences.of(5, "Returns true if it is closed after the change.");
        Sentences.test("true, then false", "addEdge 0 1 1 : 0; toggleEdge 0 : true; toggleEdge 0 : false",
            "toggleEdge 0 : true");
        Sentences.test("it, not its nodes", "addEdge 0 1 1 : 0; toggleNode 0 : true; toggleNode 1 : true",
            "toggleEdge 0 : true; toggleEdge 0 : false");
        Sentences.of(5, "if edge is not an edge");
        Sentences.refuses("edges : 0", "toggleEdge ?", "0", "-1", "1", "23", "24");
        Sentences.refuses(LINE, "toggleEdge ?", "2", "-1", "23", "24", "32", "33", LOW, HIGH);
        Sentences.refuses(Sentences.edges(0, 1, 8, 0, 23), "toggleEdge ?", "24", "-1", "25", "32", LOW, HIGH);
        Sentences.test("an edge of the network before", LINE, "begin 3; toggleEdge 0 : IAE; toggleEdge 1 : IAE");
    }

    private static void toggleNode() {
        Sentences.of(6, "Closes an open node, or opens a closed one.");
        Sentences.test("over and over", "addEdge 0 1 5 : 0; toggleNode 1 : true; distance 0 1 : NSE",
            "toggleNode 1 : false; distance 0 1 : 5; toggleNode 1 : true; usableEdges : 0; toggleNode 1 : false",
            "usableEdges : 1");
        Sentences.test("this one alone", "begin 3; addEdge 0 1 1 : 0; addEdge 1 2 1 : 1; addEdge 2 0 1 : 2",
            "toggleNode 1 : true; usableEdges : 1; toggleNode 0 : true; toggleNode 2 : true; toggleNode 1 : false",
            "usableEdges : 0; toggleNode 2 : false; usableEdges : 1");
        Sentences.test("its edges are not closed by it", LINE, "toggleNode 1 : true; toggleEdge 0 : true",
            "toggleEdge 1 : true; toggleNode 1 : false; usableEdges : 0; toggleEdge 0 : false; toggleEdge 1 : false",
            "usableEdges : 2; toggleNode 1 : true; toggleNode 1 : false; usableEdges : 2");
        Sentences.of(6, "node: a node");
        Sentences.test("the first and the last of ten", "begin 10; addEdge 0 9 1 : 0; toggleNode 0 : true",
            "usableEdges : 0; toggleNode 0 : false; usableEdges : 1; toggleNode 9 : true; usableEdges : 0");
        Sentences.test("one without edges", "begin 3; toggleNode 2 : true; toggleNode 2 : false");
        Sentences.of(6, "Returns true if it is closed after the change.");
        Sentences.test("true, then false", "toggleNode 0 : true; toggleNode 0 : false; toggleNode 0 : true",
            "toggleNode 1 : true; toggleNode 1 : false");
        Sentences.of(6, "if node is not a node");
        Sentences.refuses("nodes : 2", "toggleNode ?", "2", "-1", "9", "10", "32", "33", LOW, HIGH);
        Sentences.refuses("begin 10", "toggleNode ?", "10", "-1", "11", "32", LOW, HIGH);
        Sentences.test("a node of the network before", "begin 10; begin 3; toggleNode 3 : IAE; toggleNode 9 : IAE",
            "toggleNode 2 : true");
    }

    private static void toggleTurn() {
        Sentences.of(7, "Forbids an allowed turn, or allows a forbidden one.");
        Sentences.test("over and over", LINE, "allowedLength 0 2 : 7; toggleTurn 0 1 : true; allowedLength 0 2 : NSE",
            "toggleTurn 0 1 : false; allowedLength 0 2 : 7; toggleTurn 0 1 : true; allowedLength 0 2 : NSE");
        Sentences.test("this one alone", "begin 3; addEdge 0 1 1 : 0; addEdge 0 1 2 : 1; addEdge 1 2 4 : 2",
            "addEdge 1 2 8 : 3; toggleTurn 0 2 : true; allowedLength 0 2 : 6; toggleTurn 1 2 : true",
            "allowedLength 0 2 : 9; toggleTurn 0 3 : true; allowedLength 0 2 : 10; toggleTurn 1 3 : true",
            "allowedLength 0 2 : NSE; toggleTurn 0 2 : false; allowedLength 0 2 : 5");
        Sentences.test("not the turn the other way round", "begin 3; addEdge 0 1 1 : 0; addEdge 1 0 1 : 1",
            "addEdge 1 2 1 : 2; toggleTurn 1 0 : true; toggleTurn 0 1 : true; toggleTurn 1 0 : false",
            "toggleTurn 0 1 : false; toggleTurn 0 1 : true; toggleTurn 1 0 : true");
        Sentences.of(7, "Returns true if the turn is forbidden after the change.");
        Sentences.test("true, then false", LINE, "toggleTurn 0 1 : true; toggleTurn 0 1 : false",
            "toggleTurn 0 1 : true");
        Sentences.test("also with closed edges and nodes", LINE, "toggleEdge 0 : true; toggleEdge 1 : true",
            "toggleNode 1 : true; toggleTurn 0 1 : true; toggleEdge 0 : false; toggleEdge 1 : false",
            "toggleNode 1 : false; allowedLength 0 2 : NSE; toggleTurn 0 1 : false");
    }

    private static void toggleTurnArguments() {
        String many = "begin 3; " + Sentences.edges(0, 1, 1, 0, 11) + "; " + Sentences.edges(1, 2, 1, 12, 23);
        Sentences.of(7, "first: an edge");
        Sentences.test("the first and the last one that can be", many, "toggleTurn 0 12 : true",
            "toggleTurn 11 12 : true; toggleTurn 0 12 : false");
        Sentences.of(7, "second: an edge that begins where the first one ends");
        Sentences.test("the first and the last one that can be", many, "toggleTurn 0 12 : true; toggleTurn 0 23 : true",
            "toggleTurn 0 12 : false; toggleTurn 0 23 : false");
        Sentences.test("back to where the first one begins", "addEdge 0 1 1 : 0; addEdge 1 0 1 : 1",
            "toggleTurn 0 1 : true; toggleTurn 1 0 : true");
        Sentences.of(7, "if first or second is not an edge");
        Sentences.refuses("edges : 0", "toggleTurn ? ?", "0", "-1", "1", "24");
        // Edges from each node to each other one: whatever an edge that is none is taken for, one of them goes with it.
        String each = "begin 3; addEdge 0 1 1 : 0; addEdge 1 2 1 : 1; addEdge 2 0 1 : 2; "
            + "addEdge 1 0 1 : 3; addEdge 2 1 1 : 4; addEdge 0 2 1 : 5";
        for (int edge = 0; edge < 6; edge++) {
            Sentences.refuses(each, "toggleTurn ? " + edge, "-1", "6", "7", "23", "24", "32", LOW, HIGH);
            Sentences.refuses(each, "toggleTurn " + edge + " ?", "-1", "6", "7", "23", "24", "32", LOW, HIGH);
        }
        Sentences.refuses(many, "toggleTurn ? 23", "24", "-1", "32");
        Sentences.refuses(many, "toggleTurn 0 ?", "24", "-1", "44", "55");
        Sentences.test("edges of the network before", LINE, "begin 3; toggleTurn 0 1 : IAE; addEdge 0 1 1 : 0",
            "toggleTurn 0 1 : IAE");
        Sentences.test("a first edge of the network before", "begin 3; addEdge 1 2 1 : 0; addEdge 0 1 1 : 1; begin 3",
            "addEdge 1 2 1 : 0; toggleTurn 1 0 : IAE");
        Sentences.of(7, "or second does not begin where first ends");
        Sentences.test("the same edge", LINE, "toggleTurn 0 0 : IAE; toggleTurn 1 1 : IAE");
        Sentences.test("the pair in the wrong order", LINE, "toggleTurn 1 0 : IAE; toggleTurn 0 1 : true");
        Sentences.test("edges that begin at one node, or end at one", "begin 3; addEdge 0 1 1 : 0; addEdge 0 2 1 : 1",
            "addEdge 2 1 1 : 2; toggleTurn 0 1 : IAE; toggleTurn 0 2 : IAE; toggleTurn 2 0 : IAE",
            "toggleTurn 1 2 : true");
        Sentences.test("parallel edges", "addEdge 0 1 1 : 0; addEdge 0 1 1 : 1; toggleTurn 0 1 : IAE",
            "toggleTurn 1 0 : IAE");
        Sentences.test("edges far apart", "begin 4; addEdge 0 1 1 : 0; addEdge 2 3 1 : 1; toggleTurn 0 1 : IAE",
            "toggleTurn 1 0 : IAE");
    }

    private static void nodes() {
        Sentences.of(8, "Returns the number of nodes.");
        Sentences.test("of a new object, the least, the greatest", "nodes : 2; begin 10; nodes : 10; begin 2",
            "nodes : 2");
        Sentences.of(8, "Returns the number.");
        Sentences.test("closed nodes included", "begin 3; toggleNode 0 : true; toggleNode 1 : true",
            "toggleNode 2 : true; nodes : 3");
        Sentences.test("refused calls do not matter", "begin 3; begin 1 : IAE; begin 11 : IAE; nodes : 3");
    }

    private static void edges() {
        Sentences.of(9, "Returns the number of edges.");
        Sentences.test("none, one, all, none again", "edges : 0; addEdge 0 1 1 : 0; edges : 1",
            Sentences.edges(0, 1, 1, 1, 23), "edges : 24; begin 2; edges : 0");
        Sentences.test("refused ones do not count", Sentences.edges(0, 1, 1, 0, 23), "addEdge 0 1 1 : ISE",
            "addEdge 0 0 1 : IAE; edges : 24");
        Sentences.of(9, "closed edges included");
        Sentences.test("all closed", "addEdge 0 1 1 : 0; addEdge 1 0 1 : 1; toggleEdge 0 : true; toggleEdge 1 : true",
            "edges : 2; toggleNode 0 : true; edges : 2; toggleEdge 0 : false; edges : 2");
    }

    private static void usableEdges() {
        Sentences.of(10, "Returns the number of usable edges.");
        Sentences.test("none, one, all", "usableEdges : 0; addEdge 0 1 1 : 0; usableEdges : 1",
            Sentences.edges(1, 0, 1, 1, 23), "usableEdges : 24; toggleNode 0 : true; usableEdges : 0; begin 2",
            "usableEdges : 0");
        Sentences.of(10, "Returns the number.");
        Sentences.test("closed in two ways, it counts once", LINE, "toggleEdge 0 : true; toggleNode 0 : true",
            "usableEdges : 1; toggleNode 1 : true; usableEdges : 0; toggleNode 1 : false; usableEdges : 1");
        Sentences.test("a forbidden turn does not matter", LINE, "toggleTurn 0 1 : true; usableEdges : 2");
    }

    private static void distance() {
        Sentences.of(11, "the length of the shortest walk between two nodes");
        Sentences.test("the least", "addEdge 0 1 1 : 0; distance 0 1 : 1");
        Sentences.test("shorter by 1 with more edges", "begin 4; addEdge 0 3 1000 : 0; addEdge 0 1 333 : 1",
            "addEdge 1 2 333 : 2; addEdge 2 3 333 : 3; distance 0 3 : 999; setLength 3 334 : 333; distance 0 3 : 1000",
            "setLength 3 335 : 334; distance 0 3 : 1000");
        for (int order = 0; order < 2; order++) {
            Caller line = new Caller(new Pathparade());
            Sentences.test("the greatest", line, "begin 10");
            for (int edge = 0; edge < 9; edge++) {
                int from = order == 0 ? edge : 8 - edge;
                Sentences.test("the greatest", line, "addEdge " + from + " " + (from + 1) + " 1000 : " + edge);
            }
            Sentences.test("the greatest", line, "distance 0 9 : 9000; distance 9 0 : NSE");
        }
        Sentences.of(11, "from: a node");
        Sentences.test("the first and the last", "begin 10; addEdge 0 9 4 : 0; addEdge 9 0 6 : 1; distance 0 9 : 4",
            "distance 9 0 : 6");
        Sentences.of(11, "to: a node, which may be the same");
        Sentences.test("the same", "distance 0 0 : 0; distance 1 1 : 0; begin 10; distance 9 9 : 0; addEdge 9 0 1 : 0",
            "addEdge 0 9 1 : 1; distance 9 9 : 0");
        Sentences.test("the same, closed", LINE, "toggleNode 1 : true; distance 1 1 : 0");
        Sentences.of(11, "Returns the length.");
        Sentences.test("after a change", LINE, "distance 0 2 : 7; setLength 1 1 : 4; distance 0 2 : 4",
            "addEdge 0 2 2 : 2; distance 0 2 : 2; toggleEdge 2 : true; distance 0 2 : 4");
        Sentences.of(11, "if from or to is not a node");
        Sentences.refuses("nodes : 2", "distance ? 0", "2", "-1", "9", "10", "32", LOW, HIGH);
        Sentences.refuses("nodes : 2", "distance 0 ?", "2", "-1", "9", "10", "32", LOW, HIGH);
        Sentences.refuses("begin 10", "distance ? 0", "10", "-1");
        Sentences.refuses("begin 10", "distance 0 ?", "10", "-1");
        Sentences.refuses("begin 3", "distance ? ?", "3", "-1", LOW, HIGH);
        Sentences.of(11, "if there is no walk");
        Sentences.test("no edge", "distance 0 1 : NSE; distance 1 0 : NSE");
        Sentences.test("the wrong way", LINE, "distance 2 0 : NSE; distance 1 0 : NSE; distance 2 1 : NSE");
        Sentences.test("closed", LINE, "toggleEdge 1 : true; distance 0 2 : NSE; distance 0 1 : 3",
            "toggleEdge 1 : false; toggleNode 1 : true; distance 0 2 : NSE; toggleNode 1 : false; toggleNode 2 : true",
            "distance 0 2 : NSE; toggleNode 2 : false; toggleNode 0 : true; distance 0 2 : NSE; distance 1 2 : 4");
    }
}
