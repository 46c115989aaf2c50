/** The boundary cases of promises 12 to 17, each sentence with tests of its own. */
final class PathsBoundaryTest {
    private static final String LOW = Sentences.LOW;
    private static final String HIGH = Sentences.HIGH;
    private static final String[] CHANGES =
        {"begin 3", "addEdge 2 0 1 : 3", "setLength 2 9 : 9", "toggleEdge 2 : true", "toggleNode 1 : true"};
    /** Two paths from 0 to 2: edges 0 and 1, and edge 2. */
    private static final String TWO_PATHS = "begin 3; addEdge 0 1 3 : 0; addEdge 1 2 4 : 1; addEdge 0 2 9 : 2";

    public static void main(String[] args) {
        startPaths();
        nextPath();
        manyPaths();
        pathsDrawn();
        pathEdges();
        pathEdge();
        countPaths();
        countPathsArguments();
        Sentences.end("PathsBoundaryTest", 12, 17);
    }

    /** What a call of the draw answers when paths have not been started since the network was changed. */
    private static void notStarted(String call, String answerWhenDrawn) {
        Sentences.test("never", call + " : ISE");
        Sentences.test("never, with paths there", TWO_PATHS, call + " : ISE");
        Sentences.test("walks alone", TWO_PATHS, "startWalks 0 2; nextWalk : 7; " + call + " : ISE");
        Sentences.test("after a refused start", TWO_PATHS,
            "startPaths 0 0 : IAE; startPaths 0 3 : IAE; " + call + " : ISE");
        for (String change : CHANGES) {
            Sentences.test("after " + change, TWO_PATHS, "startPaths 0 2; nextPath : 7", change, call + " : ISE");
        }
        Sentences.test("a refused change does not matter", TWO_PATHS, "startPaths 0 2; nextPath : 7; begin 11 : IAE",
            "addEdge 0 0 1 : IAE; setLength 3 1 : IAE; setLength 0 0 : IAE; toggleEdge 3 : IAE; toggleNode 3 : IAE",
            "toggleTurn 1 0 : IAE", answerWhenDrawn);
        Sentences.test("a turn does not matter", TWO_PATHS, "startPaths 0 2; nextPath : 7; toggleTurn 0 1 : true",
            answerWhenDrawn);
    }

    private static void startPaths() {
        Sentences.of(12, "Starts to draw paths.");
        Sentences.test("none is drawn yet", TWO_PATHS, "startPaths 0 2; pathsDrawn : 0; pathEdges : NSE",
            "pathEdge 0 : NSE; nextPath : 7");
        Sentences.test("also where there is no path", "startPaths 0 1; pathsDrawn : 0; nextPath : NSE");
        Sentences.test("also between closed nodes", TWO_PATHS, "toggleNode 0 : true; toggleNode 2 : true",
            "startPaths 0 2; pathsDrawn : 0; nextPath : NSE");
        Sentences.of(12, "from: a node");
        Sentences.test("the first and the last", "begin 10; addEdge 0 5 1 : 0; addEdge 9 5 2 : 1; startPaths 0 5",
            "nextPath : 1; startPaths 9 5; nextPath : 2");
        Sentences.of(12, "to: another node");
        Sentences.test("the first and the last", "begin 10; addEdge 5 0 1 : 0; addEdge 5 9 2 : 1; startPaths 5 0",
            "nextPath : 1; startPaths 5 9; nextPath : 2");
        Sentences.of(12, "if from or to is not a node");
        Sentences.refuses("nodes : 2", "startPaths ? 0", "2", "-1", "9", "10", "32", "33", LOW, HIGH);
        Sentences.refuses("nodes : 2", "startPaths 0 ?", "2", "-1", "9", "10", "32", "33", LOW, HIGH);
        Sentences.refuses("begin 10", "startPaths ? 0", "10", "-1");
        Sentences.refuses("begin 10", "startPaths 0 ?", "10", "-1");
        Sentences.test("what was started goes on", TWO_PATHS, "startPaths 0 2; nextPath : 7; startPaths 0 3 : IAE",
            "pathsDrawn : 1; nextPath : 9");
        Sentences.of(12, "or both are the same");
        Sentences.refuses("begin 10", "startPaths ? ?", "0", "1", "9", "10", "-1");
        Sentences.test("what was started goes on", TWO_PATHS, "startPaths 0 2; nextPath : 7; startPaths 0 0 : IAE",
            "pathsDrawn : 1; nextPath : 9");
    }

    private static void nextPath() {
        Sentences.of(13, "Draws the next path.");
        Sentences.test("the only one", "addEdge 0 1 5 : 0; startPaths 0 1; nextPath : 5; pathEdge 0 : 0",
            "nextPath : NSE");
        Sentences.test("one edge and nine edges", "begin 10; addEdge 0 1 1 : 0; addEdge 1 2 1 : 1; addEdge 2 3 1 : 2",
            "addEdge 3 4 1 : 3; addEdge 4 5 1 : 4; addEdge 5 6 1 : 5; addEdge 6 7 1 : 6; addEdge 7 8 1 : 7",
            "addEdge 8 9 1 : 8; addEdge 0 9 9 : 9; startPaths 0 9; nextPath : 9; pathEdges : 9; nextPath : 9",
            "pathEdges : 1; pathEdge 0 : 9; nextPath : NSE");
        for (int factor : new int[] {1, 5, 7, 11}) {
            shuffled(factor);
        }
        Sentences.of(13, "Returns its length.");
        Sentences.test("the least and the greatest of one edge", "addEdge 0 1 1000 : 0; addEdge 0 1 1 : 1",
            "startPaths 0 1; nextPath : 1; nextPath : 1000; nextPath : NSE");
        Caller longest = new Caller(new Pathparade());
        Sentences.test("the greatest of all", longest, "begin 10");
        for (int edge = 0; edge < 9; edge++) {
            Sentences.test("the greatest of all", longest,
                "addEdge " + (9 - edge) + " " + (8 - edge) + " 1000 : " + edge);
        }
        Sentences.test("the greatest of all", longest, "startPaths 9 0; nextPath : 9000; pathEdges : 9",
            "nextPath : NSE");
        Sentences.of(13, "if paths have not been started since the network was changed");
        notStarted("nextPath", "nextPath : 9");
        Sentences.of(13, "if all paths have been drawn");
        Sentences.test("none at all", TWO_PATHS, "startPaths 2 0; nextPath : NSE; nextPath : NSE; pathsDrawn : 0");
        Sentences.test("after the last, and again", TWO_PATHS, "startPaths 0 2; nextPath : 7; nextPath : 9",
            "nextPath : NSE; nextPath : NSE; pathsDrawn : 2; nextPath : NSE");
        Sentences.test("not after a new start", TWO_PATHS, "startPaths 0 2; nextPath : 7; nextPath : 9; nextPath : NSE",
            "startPaths 0 2; nextPath : 7");
    }

    /** 24 edges in two steps, their lengths in another order than their numbers: no two paths have the same length. */
    private static void shuffled(int factor) {
        Caller caller = new Caller(new Pathparade());
        String title = "144 paths in the order of lengths, shuffled by " + factor;
        Sentences.test(title, caller, "begin 3");
        int[] first = new int[12];
        int[] second = new int[12];
        for (int i = 0; i < 12; i++) {
            int rank = i * factor % 12;
            first[rank] = 2 * i;
            second[rank] = 2 * i + 1;
            Sentences.test(title, caller, "addEdge 0 1 " + (1 + 12 * rank) + " : " + 2 * i,
                "addEdge 1 2 " + (1 + rank) + " : " + (2 * i + 1));
        }
        Sentences.test(title, caller, "startPaths 0 2");
        for (int path = 0; path < 144; path++) {
            Sentences.test(title, caller, "nextPath : " + (2 + path), "pathEdge 0 : " + first[path / 12],
                "pathEdge 1 : " + second[path % 12]);
        }
        Sentences.test(title, caller, "nextPath : NSE");
    }

    /** Few and many paths, among them numbers by which a program might draw several at once. */
    private static void manyPaths() {
        Sentences.of(13, "if all paths have been drawn");
        int[][] steps = {{1, 1}, {2, 1}, {3, 5}, {4, 4}, {17, 1}, {2, 9}, {4, 6}, {24, 0}, {23, 1}, {3, 11}, {4, 8}, {12, 4}};
        for (int[] step : steps) {
            Caller caller = new Caller(new Pathparade());
            String title = step[0] + " times " + step[1] + " paths";
            Sentences.test(title, caller, "begin 3", Sentences.edges(0, 1, 2, 0, step[0] - 1));
            if (step[1] > 0) {
                Sentences.test(title, caller, Sentences.edges(1, 2, 3, step[0], step[0] + step[1] - 1));
            }
            int to = step[1] > 0 ? 2 : 1;
            int all = step[0] * Math.max(1, step[1]);
            Sentences.test(title, caller, "countPaths 0 " + to + " 5 : " + all, "startPaths 0 " + to);
            for (int path = 0; path < all; path++) {
                Sentences.test(title, caller, "nextPath : " + (step[1] > 0 ? 5 : 2),
                    "pathEdge 0 : " + path / Math.max(1, step[1]),
                    step[1] > 0 ? "pathEdge 1 : " + (step[0] + path % step[1]) : "pathEdge 1 : NSE");
            }
            Sentences.test(title, caller, "pathsDrawn : " + all, "nextPath : NSE", "pathsDrawn : " + all);
        }
    }

    private static void pathsDrawn() {
        Sentences.of(14, "how many paths have been drawn since they were started");
        Sentences.test("none, one, all", TWO_PATHS, "startPaths 0 2; pathsDrawn : 0; nextPath : 7; pathsDrawn : 1",
            "nextPath : 9; pathsDrawn : 2");
        Sentences.test("a draw in vain does not count", TWO_PATHS, "startPaths 1 2; nextPath : 4; nextPath : NSE",
            "pathsDrawn : 1; startPaths 2 1; nextPath : NSE; pathsDrawn : 0");
        Sentences.test("from 0 after a new start", TWO_PATHS, "startPaths 0 2; nextPath : 7; startPaths 0 2",
            "pathsDrawn : 0");
        Sentences.of(14, "Returns the number.");
        Sentences.test("walks do not count", TWO_PATHS, "startPaths 0 2; startWalks 0 2; nextWalk : 7; pathsDrawn : 0",
            "nextPath : 7; nextWalk : 9; pathsDrawn : 1");
        Sentences.test("more than fifty", "begin 3", Sentences.edges(0, 1, 1, 0, 7), Sentences.edges(1, 2, 1, 8, 15),
            "startPaths 0 2" + "; nextPath : 2".repeat(51), "pathsDrawn : 51" + "; nextPath : 2".repeat(13),
            "pathsDrawn : 64; nextPath : NSE; pathsDrawn : 64");
        Sentences.of(14, "if paths have not been started since the network was changed");
        notStarted("pathsDrawn", "pathsDrawn : 1");
    }

    private static void pathEdges() {
        Sentences.of(15, "the number of edges of the path that was drawn last");
        Sentences.test("each time anew", TWO_PATHS, "startPaths 0 2; nextPath : 7; pathEdges : 2; pathEdges : 2",
            "nextPath : 9; pathEdges : 1");
        Sentences.test("the last one stays when all are drawn", TWO_PATHS, "startPaths 0 2; nextPath : 7; nextPath : 9",
            "nextPath : NSE; pathEdges : 1");
        Sentences.of(15, "Returns the number.");
        Sentences.test("one and nine", "begin 10; addEdge 0 9 1 : 0; addEdge 0 1 1 : 1; addEdge 1 2 1 : 2",
            "addEdge 2 3 1 : 3; addEdge 3 4 1 : 4; addEdge 4 5 1 : 5; addEdge 5 6 1 : 6; addEdge 6 7 1 : 7",
            "addEdge 7 8 1 : 8; addEdge 8 9 1 : 9; startPaths 0 9; nextPath : 1; pathEdges : 1; nextPath : 9",
            "pathEdges : 9");
        Sentences.of(15, "if paths have not been started since the network was changed");
        notStarted("pathEdges", "pathEdges : 2");
        Sentences.of(15, "if no path has been drawn since");
        Sentences.test("not yet", TWO_PATHS, "startPaths 0 2; pathEdges : NSE; pathEdges : NSE; nextPath : 7",
            "pathEdges : 2");
        Sentences.test("there is none", TWO_PATHS, "startPaths 2 0; nextPath : NSE; pathEdges : NSE");
        Sentences.test("not since the last start", TWO_PATHS, "startPaths 0 2; nextPath : 7; startPaths 0 2",
            "pathEdges : NSE; startPaths 1 2; pathEdges : NSE");
    }

    private static void pathEdge() {
        Sentences.of(16, "an edge of the path that was drawn last");
        Sentences.test("each time anew", TWO_PATHS, "startPaths 0 2; nextPath : 7; pathEdge 0 : 0; pathEdge 1 : 1",
            "pathEdge 0 : 0; nextPath : 9; pathEdge 0 : 2; pathEdge 0 : 2");
        Sentences.test("the last one stays when all are drawn", TWO_PATHS, "startPaths 0 2; nextPath : 7; nextPath : 9",
            "nextPath : NSE; pathEdge 0 : 2");
        Sentences.of(16, "place: 0 for the first edge");
        Sentences.test("0, 1, in any order", TWO_PATHS, "startPaths 0 2; nextPath : 7; pathEdge 1 : 1; pathEdge 0 : 0");
        Sentences.of(16, "Returns the edge.");
        Sentences.test("the first and the last of 24", Sentences.edges(0, 1, 1, 0, 23), "setLength 23 2 : 1",
            "startPaths 0 1; nextPath : 1; pathEdge 0 : 0; startPaths 0 1",
            "nextPath : 1" + "; nextPath : 1".repeat(22), "pathEdge 0 : 22; nextPath : 2; pathEdge 0 : 23",
            "nextPath : NSE; pathEdge 0 : 23");
        Sentences.of(16, "if paths have not been started since the network was changed");
        notStarted("pathEdge 0", "pathEdge 0 : 0");
        notStarted("pathEdge -1", "pathEdge -1 : NSE");
        notStarted("pathEdge 2", "pathEdge 2 : NSE");
        Sentences.of(16, "if no path has been drawn since");
        Sentences.test("not yet", TWO_PATHS, "startPaths 0 2; pathEdge 0 : NSE; pathEdge -1 : NSE; pathEdge 1 : NSE",
            "nextPath : 7; pathEdge 0 : 0");
        Sentences.test("there is none", TWO_PATHS, "startPaths 2 0; nextPath : NSE; pathEdge 0 : NSE");
        Sentences.test("not since the last start", TWO_PATHS, "startPaths 0 2; nextPath : 7; startPaths 0 2",
            "pathEdge 0 : NSE; startPaths 1 2; pathEdge 0 : NSE");
        Sentences.of(16, "or it has no such edge");
        for (String place : new String[] {"2", "3", "8", "9", "10", "12", "13", "32", "64", "-1", "-2", "-32", LOW, HIGH}) {
            Sentences.test("place " + place + " of two", TWO_PATHS,
                "startPaths 0 2; nextPath : 7; pathEdge " + place + " : NSE; pathEdge 1 : 1");
        }
        Sentences.test("place 1 of one, that the path before had", TWO_PATHS, "startPaths 0 2; nextPath : 7",
            "pathEdge 1 : 1; nextPath : 9; pathEdge 1 : NSE");
        Sentences.test("places 8 and 9 of nine", "begin 10; addEdge 0 1 1 : 0; addEdge 1 2 1 : 1; addEdge 2 3 1 : 2",
            "addEdge 3 4 1 : 3; addEdge 4 5 1 : 4; addEdge 5 6 1 : 5; addEdge 6 7 1 : 6; addEdge 7 8 1 : 7",
            "addEdge 8 9 1 : 8; startPaths 0 9; nextPath : 9; pathEdge 8 : 8; pathEdge 9 : NSE; pathEdge 10 : NSE",
            "pathEdge -1 : NSE");
    }

    private static void countPaths() {
        Sentences.of(17, "Counts the paths up to a length.");
        Sentences.test("none, one, two", TWO_PATHS, "countPaths 0 2 6 : 0; countPaths 0 2 7 : 1; countPaths 0 2 8 : 1",
            "countPaths 0 2 9 : 2; countPaths 0 2 10 : 2");
        Sentences.test("it does not start or end a draw", TWO_PATHS, "countPaths 0 2 9 : 2; pathsDrawn : ISE",
            "startPaths 0 2; nextPath : 7; countPaths 1 2 9 : 1; pathsDrawn : 1; pathEdge 0 : 0; nextPath : 9");
        Sentences.of(17, "whose length is not greater");
        Sentences.test("equal lengths all count", Sentences.edges(0, 1, 5, 0, 23), "countPaths 0 1 4 : 0",
            "countPaths 0 1 5 : 24; countPaths 0 1 6 : 24");
        Caller caller = new Caller(new Pathparade());
        Sentences.test("as many as can be", caller, "begin 9");
        for (int step = 0; step < 8; step++) {
            Sentences.test("as many as can be", caller, Sentences.edges(step, step + 1, 1000, 3 * step, 3 * step + 2));
        }
        Sentences.test("as many as can be", caller, "countPaths 0 8 8000 : 6561; countPaths 0 8 7999 : 0",
            "countPaths 0 8 100000 : 6561; countPaths 8 0 100000 : 0");
        Sentences.of(17, "length: 0 to 100000");
        Sentences.test("the least counts none", TWO_PATHS, "countPaths 0 2 0 : 0; countPaths 0 1 0 : 0",
            "countPaths 2 0 0 : 0; addEdge 2 0 1 : 3; countPaths 2 0 0 : 0; countPaths 2 0 1 : 1");
        Sentences.test("the greatest counts all", TWO_PATHS, "countPaths 0 2 100000 : 2; countPaths 0 2 99999 : 2",
            "countPaths 2 0 100000 : 0");
    }

    private static void countPathsArguments() {
        Sentences.of(17, "from: a node");
        Sentences.test("the first and the last", "begin 10; addEdge 0 5 1 : 0; addEdge 9 5 2 : 1; countPaths 0 5 1 : 1",
            "countPaths 9 5 1 : 0; countPaths 9 5 2 : 1");
        Sentences.of(17, "to: another node");
        Sentences.test("the first and the last", "begin 10; addEdge 5 0 1 : 0; addEdge 5 9 2 : 1; countPaths 5 0 1 : 1",
            "countPaths 5 9 1 : 0; countPaths 5 9 2 : 1");
        Sentences.of(17, "if from or to is not a node");
        Sentences.refuses("nodes : 2", "countPaths ? 0 5", "2", "-1", "9", "10", "32", "33", LOW, HIGH);
        Sentences.refuses("nodes : 2", "countPaths 0 ? 5", "2", "-1", "9", "10", "32", "33", LOW, HIGH);
        Sentences.refuses("begin 10", "countPaths ? 0 5", "10", "-1");
        Sentences.refuses("begin 10", "countPaths 0 ? 5", "10", "-1");
        Sentences.of(17, "both are the same");
        Sentences.refuses("begin 10", "countPaths ? ? 0", "0", "1", "9", "10", "-1");
        Sentences.of(17, "or length is out of range");
        Sentences.refuses(TWO_PATHS, "countPaths 0 2 ?", "-1", "100001", "-2", "100002", "131072", LOW, HIGH);
    }
}
