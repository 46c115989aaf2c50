/** Promises 12 to 17. */
final class PathsTest {
    public static void main(String[] args) {
        startPaths();
        nextPath();
        equalLengths();
        pathsDrawn();
        pathEdges();
        pathEdge();
        changesEndTheDraw();
        longPath();
        manyPaths();
        countPaths();
        Runs.end("PathsTest");
    }

    private static void startPaths() {
        Runs.run("promise 12",
            "begin 4; addEdge 0 1 1 : 0; addEdge 1 2 1 : 1; addEdge 0 2 5 : 2; addEdge 2 0 1 : 3; pathsDrawn : ISE",
            "startPaths 0 0 : IAE; startPaths 4 0 : IAE; startPaths 0 4 : IAE; startPaths -1 0 : IAE; startPaths 0 -1 : IAE",
            "startPaths 2147483647 0 : IAE; startPaths 0 -2147483648 : IAE; startPaths 4 4 : IAE; pathsDrawn : ISE",
            "startPaths 0 2; pathsDrawn : 0; nextPath : 2; nextPath : 5; startPaths 0 2; pathsDrawn : 0; pathEdges : NSE",
            "pathEdge 0 : NSE; nextPath : 2; startPaths 2 1; nextPath : 2; pathEdge 0 : 3; pathEdge 1 : 0; nextPath : NSE",
            "startPaths 0 0 : IAE; pathsDrawn : 1; startPaths 3 0; nextPath : NSE; startPaths 0 3; nextPath : NSE",
            "toggleNode 2 : true; startPaths 0 2; nextPath : NSE; startPaths 2 0; nextPath : NSE; startPaths 0 1; nextPath : 1");
    }

    private static void nextPath() {
        Runs.run("promise 13",
            "nextPath : ISE; begin 4; addEdge 0 1 4 : 0; addEdge 1 0 1 : 1; addEdge 1 2 4 : 2; addEdge 2 1 1 : 3",
            "addEdge 0 2 9 : 4; addEdge 2 3 1 : 5; addEdge 1 3 7 : 6; addEdge 3 0 1 : 7; addEdge 0 3 30 : 8; nextPath : ISE",
            "startPaths 0 3; nextPath : 9; pathEdge 0 : 0; pathEdge 1 : 2; pathEdge 2 : 5; nextPath : 10; pathEdge 0 : 4",
            "nextPath : 11; pathEdge 0 : 0; pathEdge 1 : 6; nextPath : 17; pathEdge 0 : 4; pathEdge 1 : 3; pathEdge 2 : 6",
            "nextPath : 30; pathEdges : 1; nextPath : NSE; nextPath : NSE; pathsDrawn : 5; pathEdge 0 : 8; pathEdges : 1",
            "toggleTurn 0 2 : true; nextPath : NSE; startPaths 0 3; nextPath : 9");
    }

    /** The order of equal lengths is that of the edge numbers, not of the numbers of edges or nodes. */
    private static void equalLengths() {
        Runs.run("equal lengths",
            "begin 5; addEdge 0 3 2 : 0; addEdge 0 1 1 : 1; addEdge 2 4 1 : 2; addEdge 1 2 1 : 3; addEdge 3 4 1 : 4",
            "addEdge 0 4 3 : 5; addEdge 0 1 1 : 6; addEdge 1 4 2 : 7; addEdge 3 4 1 : 8",
            "startPaths 0 4; nextPath : 3; pathEdge 0 : 0; pathEdge 1 : 4; nextPath : 3; pathEdge 0 : 0; pathEdge 1 : 8",
            "nextPath : 3; pathEdges : 3; pathEdge 0 : 1; pathEdge 1 : 3; pathEdge 2 : 2; nextPath : 3; pathEdge 0 : 1",
            "pathEdge 1 : 7; pathEdges : 2; nextPath : 3; pathEdge 0 : 5; pathEdges : 1; nextPath : 3; pathEdge 0 : 6",
            "pathEdge 1 : 3; nextPath : 3; pathEdge 0 : 6; pathEdge 1 : 7; nextPath : NSE; pathsDrawn : 7");
    }

    private static void pathsDrawn() {
        Runs.run("promise 14",
            "pathsDrawn : ISE; addEdge 0 1 1 : 0; addEdge 0 1 2 : 1; startWalks 0 1; pathsDrawn : ISE; startPaths 0 1",
            "pathsDrawn : 0; nextPath : 1; pathsDrawn : 1; nextWalk : 1; nextWalk : 2; pathsDrawn : 1; nextPath : 2",
            "pathsDrawn : 2; nextPath : NSE; pathsDrawn : 2; countPaths 0 1 5 : 2; distance 0 1 : 1; pathsDrawn : 2");
    }

    private static void pathEdges() {
        Runs.run("promise 15",
            "pathEdges : ISE; begin 3; addEdge 0 1 1 : 0; addEdge 1 2 1 : 1; addEdge 0 2 9 : 2; pathEdges : ISE",
            "startPaths 0 2; pathEdges : NSE; nextPath : 2; pathEdges : 2; nextPath : 9; pathEdges : 1; nextPath : NSE",
            "pathEdges : 1; startPaths 0 2; pathEdges : NSE; startPaths 2 0; nextPath : NSE; pathEdges : NSE");
    }

    private static void pathEdge() {
        Runs.run("promise 16",
            "pathEdge 0 : ISE; pathEdge -1 : ISE; begin 3; addEdge 0 1 1 : 0; addEdge 1 2 1 : 1; pathEdge 0 : ISE",
            "startPaths 0 2; pathEdge 0 : NSE; pathEdge -1 : NSE; nextPath : 2; pathEdge 0 : 0; pathEdge 1 : 1",
            "pathEdge 2 : NSE; pathEdge 9 : NSE; pathEdge -1 : NSE; pathEdge 2147483647 : NSE; pathEdge -2147483648 : NSE",
            "nextPath : NSE; pathEdge 0 : 0; pathEdge 1 : 1; countPaths 0 1 9 : 1; pathEdge 1 : 1");
    }

    private static void changesEndTheDraw() {
        String[] changes = {"addEdge 0 1 3 : 2", "setLength 0 2 : 2", "setLength 0 7 : 2", "toggleEdge 1 : true",
            "toggleNode 2 : true", "begin 3", "begin 2"};
        for (String change : changes) {
            Runs.run("after " + change,
                "begin 3; addEdge 0 1 2 : 0; addEdge 1 2 3 : 1; startPaths 0 1; nextPath : 2; startWalks 0 1; nextWalk : 2",
                change,
                "nextPath : ISE; pathsDrawn : ISE; pathEdges : ISE; pathEdge 0 : ISE; pathEdge 7 : ISE",
                "nextWalk : ISE; walksDrawn : ISE; walkEdges : ISE; walkEdge 0 : ISE; walkEdge 7 : ISE",
                "startPaths 0 1; pathsDrawn : 0; pathEdges : NSE; walksDrawn : ISE; startWalks 0 1; walksDrawn : 0");
        }
        Runs.run("after two changes that undo each other",
            "addEdge 0 1 2 : 0; startPaths 0 1; startWalks 0 1; toggleEdge 0 : true; toggleEdge 0 : false",
            "nextPath : ISE; nextWalk : ISE; startPaths 0 1; nextPath : 2; nextWalk : ISE; startWalks 0 1; nextWalk : 2");
        Runs.run("no change", "begin 3; addEdge 0 1 2 : 0; addEdge 1 0 1 : 1; startPaths 0 1; startWalks 0 1; nextPath : 2",
            "toggleTurn 0 1 : true; toggleTurn 0 1 : false; toggleTurn 1 0 : true; nextWalk : 2; nextWalk : 5; pathsDrawn : 1",
            "startPaths 0 1; walksDrawn : 2; startWalks 0 1; pathsDrawn : 0; nextPath : 2; nextWalk : 2; nextPath : NSE");
    }

    /** Ten nodes, nine edges, the lengths the greatest, the edges the highest. */
    private static void longPath() {
        Caller caller = new Caller(new Pathparade());
        Runs.run("long path", caller, "begin 10");
        for (int edge = 0; edge < 15; edge++) {
            Runs.run("long path", caller, "addEdge 9 8 1 : " + edge);
        }
        for (int edge = 15; edge < 24; edge++) {
            Runs.run("long path", caller, "addEdge " + (edge - 15) + " " + (edge - 14) + " 1000 : " + edge);
        }
        Runs.run("long path", caller, "startPaths 0 9; nextPath : 9000; pathEdges : 9; pathEdge 9 : NSE; pathEdge 10 : NSE");
        for (int place = 0; place < 9; place++) {
            Runs.run("long path", caller, "pathEdge " + place + " : " + (place + 15));
        }
        Runs.run("long path", caller, "nextPath : NSE; countPaths 0 9 9000 : 1; countPaths 0 9 8999 : 0",
            "startPaths 9 8; nextPath : 1; pathEdge 0 : 0; nextPath : 1; pathEdge 0 : 1");
    }

    /** Eight steps of three edges each are 6561 paths: as many as a network can have. */
    private static void manyPaths() {
        Caller caller = new Caller(new Pathparade());
        Runs.run("many paths", caller, "begin 9");
        int[] powers = {1, 3, 9, 27, 81, 243, 729, 2187};
        for (int edge = 0; edge < 24; edge++) {
            int step = edge / 3;
            // The lengths make every sum another one: the paths come in the order of a number with the base 3.
            int length = Math.min(1000, 1 + edge % 3 * powers[Math.min(step, 5)]);
            Runs.run("many paths", caller, "addEdge " + step + " " + (step + 1) + " " + length + " : " + edge);
        }
        Runs.run("many paths", caller, "countPaths 0 8 100000 : 6561; countPaths 0 8 8 : 1; countPaths 0 6 100000 : 729",
            "countPaths 0 6 0 : 0; countPaths 0 6 5 : 0; countPaths 0 6 369 : 364; startPaths 0 6");
        for (int path = 0; path < 400; path++) {
            Runs.run("many paths", caller, "nextPath : " + (6 + path));
            if (path % 13 == 0) {
                Runs.run("many paths", caller, "pathEdge 0 : " + path % 3, "pathEdge 5 : " + (15 + path / 243));
            }
        }
        Runs.run("many paths", caller, "pathsDrawn : 400; startPaths 0 8; nextPath : 8; pathEdge 7 : 21");
    }

    private static void countPaths() {
        Runs.run("promise 17",
            "begin 4; addEdge 0 1 1 : 0; addEdge 1 2 1 : 1; addEdge 0 2 2 : 2; addEdge 2 1 1 : 3; addEdge 1 0 1 : 4",
            "addEdge 2 3 1000 : 5; countPaths 0 2 0 : 0; countPaths 0 2 1 : 0; countPaths 0 2 2 : 2; countPaths 0 1 2 : 1",
            "countPaths 0 1 3 : 2; countPaths 0 1 100000 : 2; countPaths 2 0 2 : 1; countPaths 0 3 1001 : 0",
            "countPaths 0 3 1002 : 2; countPaths 3 0 100000 : 0; countPaths 0 1 -1 : IAE; countPaths 0 1 100001 : IAE",
            "countPaths 0 0 5 : IAE; countPaths 4 0 5 : IAE; countPaths 0 4 5 : IAE; countPaths -1 0 5 : IAE",
            "countPaths 0 1 -2147483648 : IAE; countPaths 0 1 2147483647 : IAE; toggleEdge 2 : true; countPaths 0 2 2 : 1",
            "toggleNode 1 : true; countPaths 0 2 100000 : 0; toggleEdge 2 : false; countPaths 0 2 100000 : 1",
            "toggleNode 2 : true; countPaths 0 2 100000 : 0; countPaths 2 3 100000 : 0");
    }
}
