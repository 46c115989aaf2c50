/** The boundary cases of promises 25 to 27, each sentence with tests of its own. */
final class AllowedBoundaryTest {
    private static final String LOW = Sentences.LOW;
    private static final String HIGH = Sentences.HIGH;
    /** From 0 to 2 by edges 0 and 1 (length 7) or by edge 2 (length 9); edges 3 and 4 are a loop from 1 by node 3. */
    private static final String TWO_WAYS =
        "begin 4; addEdge 0 1 3 : 0; addEdge 1 2 4 : 1; addEdge 0 2 9 : 2; addEdge 1 3 1 : 3; addEdge 3 1 1 : 4";

    public static void main(String[] args) {
        allowedLength();
        allowedEdges();
        allowedEdge();
        for (String call : new String[] {"allowedLength", "allowedEdges", "allowedEdge"}) {
            arguments(call);
        }
        Sentences.end("AllowedBoundaryTest", 25, 27);
    }

    private static void allowedLength() {
        Sentences.of(25, "the length of the first allowed walk between two nodes");
        Sentences.test("no turn forbidden", TWO_WAYS, "allowedLength 0 2 : 7; allowedLength 0 1 : 3",
            "allowedLength 1 2 : 4");
        Sentences.test("another way, a loop, and back", TWO_WAYS, "toggleTurn 0 1 : true; allowedLength 0 2 : 9",
            "toggleEdge 2 : true; allowedLength 0 2 : 9; allowedLength 0 1 : 3; toggleTurn 0 1 : false",
            "allowedLength 0 2 : 7");
        Sentences.test("the loop is longer by 1, as long, shorter by 1", TWO_WAYS, "toggleTurn 0 1 : true",
            "setLength 2 8 : 9; allowedLength 0 2 : 8; setLength 2 9 : 8; allowedLength 0 2 : 9; setLength 2 10 : 9",
            "allowedLength 0 2 : 9");
        Sentences.of(25, "Returns the length.");
        Sentences.test("the least, the greatest of one edge", "addEdge 0 1 1 : 0; addEdge 1 0 1000 : 1",
            "allowedLength 0 1 : 1; allowedLength 1 0 : 1000");
        Caller longest = everyEdge();
        Sentences.test("the greatest, of all 24 edges", longest, "allowedLength 9 2 : 24000");
    }

    private static void allowedEdges() {
        Sentences.of(26, "the number of edges of the first allowed walk between two nodes");
        Sentences.test("no turn forbidden, a loop, another way", TWO_WAYS, "allowedEdges 0 2 : 2",
            "toggleTurn 0 1 : true; allowedEdges 0 2 : 4; setLength 2 8 : 9; allowedEdges 0 2 : 1");
        Sentences.test("of equal lengths the first", TWO_WAYS, "setLength 2 7 : 9; allowedEdges 0 2 : 2; begin 3",
            "addEdge 0 2 7 : 0; addEdge 0 1 3 : 1; addEdge 1 2 4 : 2; allowedEdges 0 2 : 1");
        Sentences.of(26, "Returns the number.");
        Sentences.test("none, one", TWO_WAYS, "allowedEdges 0 0 : 0; allowedEdges 0 1 : 1");
        Sentences.test("all 24", everyEdge(), "allowedEdges 9 2 : 24");
    }

    private static void allowedEdge() {
        Sentences.of(27, "an edge of the first allowed walk between two nodes");
        Sentences.test("no turn forbidden, a loop, another way", TWO_WAYS, "allowedEdge 0 2 0 : 0",
            "allowedEdge 0 2 1 : 1; toggleTurn 0 1 : true; allowedEdge 0 2 1 : 3; allowedEdge 0 2 2 : 4",
            "allowedEdge 0 2 3 : 1; setLength 2 8 : 9; allowedEdge 0 2 0 : 2; allowedEdge 0 2 1 : NSE");
        Sentences.of(27, "place: 0 for the first edge");
        Sentences.test("in any order", TWO_WAYS, "allowedEdge 0 2 1 : 1; allowedEdge 0 2 0 : 0; allowedEdge 1 2 0 : 1",
            "allowedEdge 0 2 1 : 1");
        Sentences.of(27, "Returns the edge.");
        Caller caller = everyEdge();
        for (int place = 0; place < 24; place++) {
            Sentences.test("each of all 24", caller, "allowedEdge 9 2 " + place + " : " + place);
        }
        Sentences.of(27, "or it has no such edge");
        Sentences.test("one more than all 24", caller, "allowedEdge 9 2 24 : NSE; allowedEdge 9 2 25 : NSE",
            "allowedEdge 9 2 -1 : NSE");
        for (String place : new String[] {"2", "3", "9", "23", "24", "32", "-1", "-2", LOW, HIGH}) {
            Sentences.test("place " + place + " of two", TWO_WAYS, "allowedEdge 0 2 " + place + " : NSE");
            Sentences.test("place " + place + " of two, after a longer one", TWO_WAYS,
                "toggleTurn 0 1 : true; allowedEdge 0 2 3 : 1; toggleTurn 0 1 : false; allowedEdge 0 2 " + place + " : NSE");
        }
        for (String place : new String[] {"0", "1", "-1", LOW, HIGH}) {
            Sentences.test("place " + place + " of none", TWO_WAYS,
                "allowedEdge 0 2 0 : 0; allowedEdge 0 0 " + place + " : NSE");
        }
    }

    /** What the three promises say of their nodes. */
    private static void arguments(String call) {
        int promise = call.equals("allowedLength") ? 25 : call.equals("allowedEdges") ? 26 : 27;
        String place = promise == 27 ? " 0" : "";
        String same = promise == 27 ? " : NSE" : " : 0";
        String setup = "begin 10; addEdge 0 5 1 : 0; addEdge 9 5 1 : 1; addEdge 5 0 1 : 2; addEdge 5 9 1 : 3";
        String[] found = {" : 1", " : 1", " : 1", " : 1"};
        if (promise == 27) {
            found = new String[] {" : 0", " : 1", " : 2", " : 3"};
        }
        Sentences.of(promise, "from: a node");
        Sentences.test("the first and the last", setup, call + " 0 5" + place + found[0],
            call + " 9 5" + place + found[1]);
        Sentences.of(promise, "to: a node, which may be the same");
        Sentences.test("the first and the last", setup, call + " 5 0" + place + found[2],
            call + " 5 9" + place + found[3]);
        Sentences.test("the same", setup, call + " 0 0" + place + same, call + " 9 9" + place + same,
            call + " 4 4" + place + same);
        Sentences.test("the same, closed", setup, "toggleNode 0 : true; toggleNode 9 : true",
            call + " 0 0" + place + same, call + " 9 9" + place + same);
        Sentences.test("the same, each turn back forbidden", setup, "toggleTurn 0 2 : true; toggleTurn 2 0 : true",
            call + " 0 0" + place + same, call + " 5 5" + place + same);
        Sentences.of(promise, "if from or to is not a node");
        Sentences.refuses("nodes : 2", call + " ? 0" + place, "2", "-1", "9", "10", "32", "33", LOW, HIGH);
        Sentences.refuses("nodes : 2", call + " 0 ?" + place, "2", "-1", "9", "10", "32", "33", LOW, HIGH);
        Sentences.refuses("begin 10", call + " ? 0" + place, "10", "-1");
        Sentences.refuses("begin 10", call + " 0 ?" + place, "10", "-1");
        Sentences.refuses("begin 3", call + " ? ?" + place, "3", "-1", LOW, HIGH);
        Sentences.of(promise, "if there is no allowed walk");
        Sentences.test("no edge", call + " 0 1" + place + " : NSE");
        Sentences.test("the wrong way", TWO_WAYS, call + " 2 0" + place + " : NSE");
        Sentences.test("closed", TWO_WAYS, "toggleNode 2 : true", call + " 0 2" + place + " : NSE",
            "toggleNode 2 : false; toggleNode 0 : true", call + " 0 2" + place + " : NSE", "toggleNode 0 : false",
            "toggleEdge 2 : true; toggleEdge 0 : true", call + " 0 2" + place + " : NSE");
        Sentences.test("all forbidden", TWO_WAYS, "toggleEdge 2 : true; toggleTurn 0 1 : true; toggleTurn 0 3 : true",
            call + " 0 2" + place + " : NSE", "toggleTurn 0 3 : false; toggleTurn 3 4 : true",
            call + " 0 2" + place + " : NSE", "toggleTurn 3 4 : false; toggleTurn 4 1 : true",
            call + " 0 2" + place + " : NSE");
    }

    /** From 9 to 2 each edge may be followed by the next one alone, so that the walk has all 24 edges. */
    private static Caller everyEdge() {
        Caller caller = new Caller(new Pathparade());
        Runs.run("every edge", caller, "begin 10; addEdge 9 0 1000 : 0");
        for (int edge = 1; edge < 23; edge++) {
            Runs.run("every edge", caller, "addEdge " + (edge + 1) % 2 + " " + edge % 2 + " 1000 : " + edge);
        }
        Runs.run("every edge", caller, "addEdge 0 2 1000 : 23");
        for (int first = 0; first < 23; first++) {
            for (int second = 1; second < 24; second++) {
                boolean isTurn = first == 0 ? second % 2 == 1 : second % 2 != first % 2;
                if (isTurn && second != first + 1) {
                    Runs.run("every edge", caller, "toggleTurn " + first + " " + second + " : true");
                }
            }
        }
        return caller;
    }
}
