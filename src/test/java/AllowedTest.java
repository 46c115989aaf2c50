/** Promises 25 to 27. */
final class AllowedTest {
    public static void main(String[] args) {
        withoutTurns();
        aroundForbiddenTurns();
        loopsToTurn();
        equalLengths();
        sameNode();
        everyEdgeOnce();
        wrongArguments();
        Runs.end("AllowedTest");
    }

    private static void withoutTurns() {
        Runs.run("promises 25 to 27",
            "allowedLength 0 1 : NSE; allowedEdges 0 1 : NSE; allowedEdge 0 1 0 : NSE; begin 4; addEdge 0 1 10 : 0",
            "addEdge 0 2 3 : 1; addEdge 2 1 4 : 2; allowedLength 0 1 : 7; allowedEdges 0 1 : 2; allowedEdge 0 1 0 : 1",
            "allowedEdge 0 1 1 : 2; allowedEdge 0 1 2 : NSE; allowedLength 0 3 : NSE; allowedEdges 3 0 : NSE",
            "toggleEdge 2 : true; allowedLength 0 1 : 10; allowedEdges 0 1 : 1; allowedEdge 0 1 0 : 0; toggleEdge 2 : false",
            "toggleNode 2 : true; allowedLength 0 1 : 10; allowedLength 0 2 : NSE; toggleNode 1 : true; allowedEdge 0 1 0 : NSE");
    }

    private static void aroundForbiddenTurns() {
        Runs.run("forbidden turns",
            "begin 4; addEdge 0 1 1 : 0; addEdge 1 2 1 : 1; addEdge 1 3 5 : 2; addEdge 3 2 1 : 3; addEdge 0 2 9 : 4",
            "allowedLength 0 2 : 2; toggleTurn 0 1 : true; allowedLength 0 2 : 7; allowedEdges 0 2 : 3; allowedEdge 0 2 1 : 2",
            "allowedLength 1 2 : 1; distance 0 2 : 2; toggleTurn 2 3 : true; allowedLength 0 2 : 9; allowedEdges 0 2 : 1",
            "allowedEdge 0 2 0 : 4; allowedLength 0 3 : 6; toggleEdge 4 : true; allowedLength 0 2 : NSE; allowedEdges 0 2 : NSE",
            "allowedEdge 0 2 0 : NSE; toggleTurn 0 1 : false; allowedLength 0 2 : 2; toggleEdge 4 : false; allowedEdge 0 2 0 : 0");
    }

    /** The first allowed walk may come to a node, or to its first node, twice. */
    private static void loopsToTurn() {
        Runs.run("loops",
            "begin 4; addEdge 0 1 1 : 0; addEdge 1 2 1 : 1; addEdge 1 3 2 : 2; addEdge 3 1 3 : 3; toggleTurn 0 1 : true",
            "allowedLength 0 2 : 7; allowedEdges 0 2 : 4; allowedEdge 0 2 0 : 0; allowedEdge 0 2 1 : 2; allowedEdge 0 2 2 : 3",
            "allowedEdge 0 2 3 : 1; allowedEdge 0 2 4 : NSE; toggleTurn 2 3 : true; allowedLength 0 2 : NSE",
            "addEdge 1 0 1 : 4; addEdge 0 1 8 : 5; allowedLength 0 2 : 9; allowedEdges 0 2 : 2; setLength 5 20 : 8",
            "allowedLength 0 2 : 21; addEdge 0 3 1 : 6; allowedLength 0 2 : 5; toggleTurn 6 3 : true; allowedLength 0 2 : 21");
        Runs.run("back over the first node",
            "begin 4; addEdge 0 1 1 : 0; addEdge 1 2 1 : 1; addEdge 1 0 1 : 2; addEdge 0 3 1 : 3; addEdge 3 1 1 : 4",
            "toggleTurn 0 1 : true; allowedLength 0 2 : 3; toggleEdge 4 : true; allowedLength 0 2 : NSE",
            "addEdge 3 2 9 : 5; allowedLength 0 2 : 10; addEdge 0 1 30 : 6; toggleTurn 3 5 : true; allowedLength 0 2 : 31",
            "toggleTurn 2 6 : true; allowedLength 0 2 : 31; toggleTurn 6 1 : true; allowedLength 0 2 : NSE");
    }

    private static void equalLengths() {
        Runs.run("equal lengths",
            "begin 4; addEdge 0 3 3 : 0; addEdge 1 3 1 : 1; addEdge 0 1 1 : 2; addEdge 0 2 1 : 3; addEdge 2 3 2 : 4",
            "addEdge 1 3 2 : 5; addEdge 2 3 2 : 6; addEdge 0 3 3 : 7; allowedLength 0 3 : 2; allowedEdge 0 3 0 : 2",
            "toggleTurn 2 1 : true; allowedLength 0 3 : 3; allowedEdges 0 3 : 1; allowedEdge 0 3 0 : 0; toggleEdge 0 : true",
            "allowedEdges 0 3 : 2; allowedEdge 0 3 0 : 2; allowedEdge 0 3 1 : 5; toggleTurn 2 5 : true",
            "allowedEdge 0 3 0 : 3; allowedEdge 0 3 1 : 4; toggleTurn 3 4 : true; allowedEdge 0 3 1 : 6; toggleTurn 3 6 : true",
            "allowedEdges 0 3 : 1; allowedEdge 0 3 0 : 7; allowedLength 0 3 : 3");
    }

    private static void sameNode() {
        Runs.run("same node",
            "allowedLength 0 0 : 0; allowedEdges 1 1 : 0; allowedEdge 0 0 0 : NSE; addEdge 0 1 1 : 0; addEdge 1 0 1 : 1",
            "allowedLength 0 1 : 1; allowedLength 0 0 : 0; allowedEdges 0 0 : 0; allowedEdge 0 0 0 : NSE",
            "toggleNode 0 : true; allowedLength 0 0 : 0; allowedEdges 0 0 : 0; allowedEdge 0 0 0 : NSE; allowedEdge 0 0 -1 : NSE");
    }

    /** Each edge may be followed by the next one alone, so the first allowed walk has all 24 edges. */
    private static void everyEdgeOnce() {
        Caller caller = new Caller(new Pathparade());
        Runs.run("chain", caller, "begin 10; addEdge 9 0 1000 : 0");
        for (int edge = 1; edge < 23; edge++) {
            Runs.run("chain", caller, "addEdge " + (edge + 1) % 2 + " " + edge % 2 + " 1000 : " + edge);
        }
        Runs.run("chain", caller, "addEdge 0 2 1000 : 23; allowedLength 9 2 : 2000; allowedEdges 9 2 : 2");
        for (int first = 0; first < 23; first++) {
            for (int second = 1; second < 24; second++) {
                boolean isTurn = first == 0 ? second % 2 == 1 : second % 2 != first % 2;
                if (isTurn && second != first + 1) {
                    Runs.run("chain", caller, "toggleTurn " + first + " " + second + " : true");
                }
            }
        }
        Runs.run("chain", caller, "allowedLength 9 2 : 24000; allowedEdges 9 2 : 24; allowedEdge 9 2 24 : NSE");
        for (int place = 0; place < 24; place++) {
            Runs.run("chain", caller, "allowedEdge 9 2 " + place + " : " + place);
        }
    }

    private static void wrongArguments() {
        Runs.run("wrong arguments",
            "addEdge 0 1 4 : 0; allowedLength 2 0 : IAE; allowedLength 0 2 : IAE; allowedLength -1 0 : IAE",
            "allowedLength 0 -1 : IAE; allowedLength 2 2 : IAE; allowedEdges 2 0 : IAE; allowedEdges 0 2 : IAE",
            "allowedEdges -1 -1 : IAE; allowedEdge 2 0 0 : IAE; allowedEdge 0 2 0 : IAE; allowedEdge 0 -1 -1 : IAE",
            "allowedEdge 2147483647 0 0 : IAE; allowedEdge 0 -2147483648 0 : IAE; allowedEdge 0 1 0 : 0",
            "allowedEdge 0 1 1 : NSE; allowedEdge 0 1 -1 : NSE; allowedEdge 0 1 24 : NSE; allowedEdge 0 1 2147483647 : NSE",
            "allowedEdge 0 1 -2147483648 : NSE; allowedEdge 1 0 -1 : NSE; allowedLength 0 1 : 4");
    }
}
