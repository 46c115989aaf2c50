/** The boundary cases of promises 18 to 22, each sentence with tests of its own. */
final class WalksBoundaryTest {
    private static final String LOW = Sentences.LOW;
    private static final String HIGH = Sentences.HIGH;
    private static final String[] CHANGES =
        {"begin 3", "addEdge 2 0 1 : 3", "setLength 2 9 : 9", "toggleEdge 2 : true", "toggleNode 1 : true"};
    /** Two walks from 0 to 2: edges 0 and 1, and edge 2. */
    private static final String TWO_WALKS = "begin 3; addEdge 0 1 3 : 0; addEdge 1 2 4 : 1; addEdge 0 2 9 : 2";
    /** Walks without an end: to and fro. */
    private static final String LOOP = "addEdge 0 1 2 : 0; addEdge 1 0 1 : 1";

    public static void main(String[] args) {
        startWalks();
        nextWalk();
        fiftyWalks();
        allWalks();
        walksDrawn();
        walkEdges();
        walkEdge();
        Sentences.end("WalksBoundaryTest", 18, 22);
    }

    /** What a call of the draw answers when walks have not been started since the network was changed. */
    private static void notStarted(String call, String answerWhenDrawn) {
        Sentences.test("never", call + " : ISE");
        Sentences.test("never, with walks there", TWO_WALKS, call + " : ISE");
        Sentences.test("paths alone", TWO_WALKS, "startPaths 0 2; nextPath : 7; " + call + " : ISE");
        Sentences.test("after a refused start", TWO_WALKS,
            "startWalks 0 3 : IAE; startWalks -1 0 : IAE; " + call + " : ISE");
        for (String change : CHANGES) {
            Sentences.test("after " + change, TWO_WALKS, "startWalks 0 2; nextWalk : 7", change, call + " : ISE");
            Sentences.test("from a node to itself, after " + change, TWO_WALKS, "startWalks 1 1; nextWalk : 0", change,
                call + " : ISE");
        }
        Sentences.test("a refused change does not matter", TWO_WALKS, "startWalks 0 2; nextWalk : 7; begin 11 : IAE",
            "addEdge 0 0 1 : IAE; setLength 3 1 : IAE; setLength 0 0 : IAE; toggleEdge 3 : IAE; toggleNode 3 : IAE",
            "toggleTurn 1 0 : IAE", answerWhenDrawn);
        Sentences.test("a turn does not matter", TWO_WALKS, "startWalks 0 2; nextWalk : 7; toggleTurn 0 1 : true",
            answerWhenDrawn);
    }

    /** Rows that draw walks of the loop, each longer by 3. */
    private static String nextWalks(int firstLength, int walks) {
        StringBuilder rows = new StringBuilder();
        for (int walk = 0; walk < walks; walk++) {
            rows.append("; nextWalk : ").append(firstLength + 3 * walk);
        }
        return rows.toString();
    }

    private static void startWalks() {
        Sentences.of(18, "Starts to draw walks.");
        Sentences.test("none is drawn yet", TWO_WALKS, "startWalks 0 2; walksDrawn : 0; walkEdges : NSE",
            "walkEdge 0 : NSE; nextWalk : 7");
        Sentences.test("also where there is no walk", "startWalks 0 1; walksDrawn : 0; nextWalk : NSE");
        Sentences.test("also between closed nodes", TWO_WALKS, "toggleNode 0 : true; toggleNode 2 : true",
            "startWalks 0 2; walksDrawn : 0; nextWalk : NSE");
        Sentences.of(18, "from: a node");
        Sentences.test("the first and the last", "begin 10; addEdge 0 5 1 : 0; addEdge 9 5 2 : 1; startWalks 0 5",
            "nextWalk : 1; startWalks 9 5; nextWalk : 2");
        Sentences.of(18, "to: a node, which may be the same");
        Sentences.test("the first and the last", "begin 10; addEdge 5 0 1 : 0; addEdge 5 9 2 : 1; startWalks 5 0",
            "nextWalk : 1; startWalks 5 9; nextWalk : 2");
        Sentences.test("the same", LOOP, "startWalks 0 0; nextWalk : 0; nextWalk : 3; walkEdge 0 : 0; startWalks 1 1",
            "nextWalk : 0; nextWalk : 3; walkEdge 0 : 1");
        Sentences.test("the same, without edges", "startWalks 0 0; walksDrawn : 0; walkEdges : NSE; nextWalk : 0",
            "nextWalk : NSE; begin 10; startWalks 9 9; nextWalk : 0; nextWalk : NSE");
        Sentences.test("the same, closed", LOOP, "toggleNode 0 : true; startWalks 0 0; nextWalk : 0; walkEdges : 0",
            "nextWalk : NSE; walksDrawn : 1");
        Sentences.of(18, "if from or to is not a node");
        Sentences.refuses("nodes : 2", "startWalks ? 0", "2", "-1", "9", "10", "32", "33", LOW, HIGH);
        Sentences.refuses("nodes : 2", "startWalks 0 ?", "2", "-1", "9", "10", "32", "33", LOW, HIGH);
        Sentences.refuses("begin 10", "startWalks ? 0", "10", "-1");
        Sentences.refuses("begin 10", "startWalks 0 ?", "10", "-1");
        Sentences.refuses("begin 3", "startWalks ? ?", "3", "-1", LOW, HIGH);
        Sentences.test("what was started goes on", TWO_WALKS, "startWalks 0 2; nextWalk : 7; startWalks 0 3 : IAE",
            "walksDrawn : 1; nextWalk : 9");
    }

    private static void nextWalk() {
        Sentences.of(19, "Draws the next walk.");
        Sentences.test("the only one", "addEdge 0 1 5 : 0; startWalks 0 1; nextWalk : 5; walkEdge 0 : 0",
            "nextWalk : NSE");
        Sentences.test("past the last node and on", "begin 3; addEdge 0 1 1 : 0; addEdge 1 2 1 : 1; addEdge 2 1 1 : 2",
            "startWalks 0 1; nextWalk : 1; nextWalk : 3; walkEdges : 3; nextWalk : 5");
        Sentences.test("past the first node again", "begin 3; addEdge 0 1 1 : 0; addEdge 1 0 1 : 1; addEdge 0 2 1 : 2",
            "startWalks 0 2; nextWalk : 1; nextWalk : 3; walkEdge 2 : 2; nextWalk : 5");
        Sentences.of(19, "Returns its length.");
        Sentences.test("0, the least and the greatest of one edge", "addEdge 0 1 1000 : 0; addEdge 0 1 1 : 1",
            "startWalks 0 1; nextWalk : 1; nextWalk : 1000; nextWalk : NSE; startWalks 1 1; nextWalk : 0");
        Sentences.of(19, "if walks have not been started since the network was changed");
        notStarted("nextWalk", "nextWalk : 9");
    }

    private static void fiftyWalks() {
        Sentences.of(19, "50 have been drawn since they were started");
        Caller caller = new Caller(new Pathparade());
        Sentences.test("the 50th is drawn, the 51st is not", caller, LOOP, "startWalks 0 1" + nextWalks(2, 50),
            "walksDrawn : 50; nextWalk : ISE; nextWalk : ISE; walksDrawn : 50");
        Sentences.test("after a new start it begins again", caller, "startWalks 0 1; walksDrawn : 0; nextWalk : 2",
            "nextWalk : 5");
        Caller longest = new Caller(new Pathparade());
        Sentences.test("the longest walks", longest, "begin 10");
        for (int node = 0; node < 10; node++) {
            Sentences.test("the longest walks", longest, "addEdge " + node + " " + (node + 1) % 10 + " 1000 : " + node);
        }
        Sentences.test("the longest walks", longest, "startWalks 0 9");
        for (int walk = 0; walk < 50; walk++) {
            Sentences.test("the longest walks", longest, "nextWalk : " + (9000 + 10000 * walk));
        }
        Sentences.test("the longest walks", longest, "nextWalk : ISE; walkEdges : 499; walkEdge 498 : 8",
            "walkEdge 499 : NSE");
        Sentences.test("from a node to itself, the walk without edges counts", longest, "startWalks 4 4");
        for (int walk = 0; walk < 50; walk++) {
            Sentences.test("from a node to itself, the walk without edges counts", longest,
                "nextWalk : " + 10000 * walk);
        }
        Sentences.test("from a node to itself, the walk without edges counts", longest, "nextWalk : ISE",
            "walkEdges : 490; walkEdge 0 : 4; walkEdge 489 : 3");
        Sentences.test("other nodes have more walks than fifty", "begin 3; addEdge 0 2 1 : 0; addEdge 0 2 1 : 1",
            "addEdge 2 0 1 : 2; addEdge 2 0 1 : 3; addEdge 1 2 1 : 4",
            "addEdge 2 1 1 : 5; startWalks 1 2; nextWalk : 1" + "; nextWalk : 3".repeat(5) + "; nextWalk : 5".repeat(25),
            "walkEdges : 5; walkEdge 0 : 4; walkEdge 1 : 5; walkEdge 2 : 4; walkEdge 3 : 5; walkEdge 4 : 4",
            "nextWalk : 7" + "; nextWalk : 7".repeat(18),
            "walkEdges : 7; walkEdge 0 : 4; walkEdge 1 : 2; walkEdge 2 : 0; walkEdge 3 : 3; walkEdge 4 : 1",
            "walkEdge 5 : 3; walkEdge 6 : 1; nextWalk : ISE");
        Sentences.test("paths are not bound by it", "begin 3", Sentences.edges(0, 1, 1, 0, 7),
            Sentences.edges(1, 2, 1, 8, 14), "startPaths 0 2" + "; nextPath : 2".repeat(56), "nextPath : NSE",
            "pathsDrawn : 56");
    }

    /** With fifty walks in all the next call throws what goes first; with 49 all have been drawn. */
    private static void allWalks() {
        Sentences.of(19, "if all walks have been drawn");
        Sentences.test("none at all", TWO_WALKS, "startWalks 2 0; nextWalk : NSE; nextWalk : NSE; walksDrawn : 0");
        Sentences.test("after the last, and again", TWO_WALKS, "startWalks 0 2; nextWalk : 7; nextWalk : 9",
            "nextWalk : NSE; nextWalk : NSE; walksDrawn : 2");
        Sentences.test("not after a new start", TWO_WALKS, "startWalks 0 2; nextWalk : 7; nextWalk : 9; nextWalk : NSE",
            "startWalks 0 2; nextWalk : 7");
        Sentences.test("49", "begin 3", Sentences.edges(0, 1, 1, 0, 6), Sentences.edges(1, 2, 1, 7, 13),
            "startWalks 0 2" + "; nextWalk : 2".repeat(49), "walksDrawn : 49; nextWalk : NSE; walksDrawn : 49",
            "nextWalk : NSE");
        Sentences.test("50, IllegalStateException goes first", "begin 3", Sentences.edges(0, 1, 1, 0, 4),
            Sentences.edges(1, 2, 1, 5, 14), "startWalks 0 2" + "; nextWalk : 2".repeat(50), "walksDrawn : 50",
            "nextWalk : ISE; walksDrawn : 50; walkEdge 0 : 4; walkEdge 1 : 14");
        Sentences.test("51", "begin 3", Sentences.edges(0, 1, 1, 0, 2), Sentences.edges(1, 2, 1, 3, 19),
            "startWalks 0 2" + "; nextWalk : 2".repeat(50), "nextWalk : ISE; walkEdge 0 : 2; walkEdge 1 : 18");
    }

    private static void walksDrawn() {
        Sentences.of(20, "how many walks have been drawn since they were started");
        Sentences.test("none, one, all", TWO_WALKS, "startWalks 0 2; walksDrawn : 0; nextWalk : 7; walksDrawn : 1",
            "nextWalk : 9; walksDrawn : 2");
        Sentences.test("a draw in vain does not count", TWO_WALKS, "startWalks 1 2; nextWalk : 4; nextWalk : NSE",
            "walksDrawn : 1; startWalks 2 1; nextWalk : NSE; walksDrawn : 0");
        Sentences.test("from 0 after a new start", TWO_WALKS, "startWalks 0 2; nextWalk : 7; startWalks 0 2",
            "walksDrawn : 0");
        Sentences.of(20, "Returns the number.");
        Sentences.test("paths do not count, the walk without edges does", TWO_WALKS, "startWalks 0 0; startPaths 0 2",
            "nextPath : 7; walksDrawn : 0; nextWalk : 0; walksDrawn : 1");
        Caller caller = new Caller(new Pathparade());
        Sentences.test("each up to fifty", caller, LOOP, "startWalks 1 0");
        for (int walk = 0; walk < 50; walk++) {
            Sentences.test("each up to fifty", caller, "walksDrawn : " + walk, "nextWalk : " + (1 + 3 * walk));
        }
        Sentences.test("each up to fifty", caller, "walksDrawn : 50; nextWalk : ISE; walksDrawn : 50");
        Sentences.of(20, "if walks have not been started since the network was changed");
        notStarted("walksDrawn", "walksDrawn : 1");
    }

    private static void walkEdges() {
        Sentences.of(21, "the number of edges of the walk that was drawn last");
        Sentences.test("each time anew", TWO_WALKS, "startWalks 0 2; nextWalk : 7; walkEdges : 2; walkEdges : 2",
            "nextWalk : 9; walkEdges : 1");
        Sentences.test("the last one stays when all are drawn", TWO_WALKS, "startWalks 0 2; nextWalk : 7; nextWalk : 9",
            "nextWalk : NSE; walkEdges : 1");
        Sentences.of(21, "Returns the number.");
        Sentences.test("none", "startWalks 0 0; nextWalk : 0; walkEdges : 0");
        Sentences.test("more than there are edges, and nodes", LOOP, "startWalks 0 0; nextWalk : 0; nextWalk : 3",
            "nextWalk : 6; nextWalk : 9; nextWalk : 12; nextWalk : 15; walkEdges : 10; nextWalk : 18; nextWalk : 21",
            "nextWalk : 24; nextWalk : 27; nextWalk : 30; nextWalk : 33; nextWalk : 36; walkEdges : 24; nextWalk : 39",
            "walkEdges : 26");
        Sentences.of(21, "if walks have not been started since the network was changed");
        notStarted("walkEdges", "walkEdges : 2");
        Sentences.of(21, "if no walk has been drawn since");
        Sentences.test("not yet", TWO_WALKS, "startWalks 0 2; walkEdges : NSE; walkEdges : NSE; nextWalk : 7",
            "walkEdges : 2");
        Sentences.test("not yet, from a node to itself", "startWalks 0 0; walkEdges : NSE; nextWalk : 0",
            "walkEdges : 0");
        Sentences.test("there is none", TWO_WALKS, "startWalks 2 0; nextWalk : NSE; walkEdges : NSE");
        Sentences.test("not since the last start", TWO_WALKS, "startWalks 0 2; nextWalk : 7; startWalks 0 2",
            "walkEdges : NSE; startWalks 0 0; walkEdges : NSE");
        Sentences.test("not since the last start, after fifty", LOOP, "startWalks 0 0; nextWalk : 0" + nextWalks(3, 49),
            "startWalks 1 0; walkEdges : NSE");
    }

    private static void walkEdge() {
        Sentences.of(22, "an edge of the walk that was drawn last");
        Sentences.test("each time anew", TWO_WALKS, "startWalks 0 2; nextWalk : 7; walkEdge 0 : 0; walkEdge 1 : 1",
            "walkEdge 0 : 0; nextWalk : 9; walkEdge 0 : 2; walkEdge 0 : 2");
        Sentences.test("the last one stays when all are drawn", TWO_WALKS, "startWalks 0 2; nextWalk : 7; nextWalk : 9",
            "nextWalk : NSE; walkEdge 0 : 2");
        Sentences.of(22, "place: 0 for the first edge");
        Sentences.test("0, 1, in any order", TWO_WALKS, "startWalks 0 2; nextWalk : 7; walkEdge 1 : 1; walkEdge 0 : 0");
        Sentences.of(22, "Returns the edge.");
        Sentences.test("the first and the last of 24", Sentences.edges(0, 1, 1, 0, 23),
            "startWalks 0 1; nextWalk : 1; walkEdge 0 : 0" + "; nextWalk : 1".repeat(23), "walkEdge 0 : 23",
            "nextWalk : NSE; walkEdge 0 : 23");
        Sentences.of(22, "if walks have not been started since the network was changed");
        notStarted("walkEdge 0", "walkEdge 0 : 0");
        notStarted("walkEdge -1", "walkEdge -1 : NSE");
        notStarted("walkEdge 2", "walkEdge 2 : NSE");
        Sentences.of(22, "if no walk has been drawn since");
        Sentences.test("not yet", TWO_WALKS, "startWalks 0 2; walkEdge 0 : NSE; walkEdge -1 : NSE; walkEdge 1 : NSE",
            "nextWalk : 7; walkEdge 0 : 0");
        Sentences.test("there is none", TWO_WALKS, "startWalks 2 0; nextWalk : NSE; walkEdge 0 : NSE");
        Sentences.test("not since the last start", TWO_WALKS, "startWalks 0 2; nextWalk : 7; startWalks 0 2",
            "walkEdge 0 : NSE; startWalks 1 2; walkEdge 0 : NSE");
        Sentences.test("not since the last start, after fifty", LOOP, "startWalks 0 0; nextWalk : 0" + nextWalks(3, 49),
            "startWalks 1 0; walkEdge 0 : NSE; walkEdge 1 : NSE");
        Sentences.of(22, "or it has no such edge");
        for (String place : new String[] {"2", "3", "9", "24", "32", "50", "499", "500", "-1", "-2", LOW, HIGH}) {
            Sentences.test("place " + place + " of two", TWO_WALKS,
                "startWalks 0 2; nextWalk : 7; walkEdge " + place + " : NSE; walkEdge 1 : 1");
        }
        for (String place : new String[] {"0", "1", "-1", LOW, HIGH}) {
            Sentences.test("place " + place + " of none", LOOP,
                "startWalks 0 0; nextWalk : 0; walkEdge " + place + " : NSE");
        }
        Sentences.test("place 1 of one, that the walk before had", TWO_WALKS, "startWalks 0 2; nextWalk : 7",
            "walkEdge 1 : 1; nextWalk : 9; walkEdge 1 : NSE");
    }
}
