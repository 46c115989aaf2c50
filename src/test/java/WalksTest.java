/** Promises 18 to 22. */
final class WalksTest {
    public static void main(String[] args) {
        startWalks();
        nextWalk();
        equalLengths();
        sameNode();
        fiftyWalks();
        fiftyThatAreAll();
        walksDrawn();
        walkEdges();
        walkEdge();
        longWalks();
        Runs.end("WalksTest");
    }

    private static void startWalks() {
        Runs.run("promise 18",
            "begin 3; addEdge 0 1 1 : 0; addEdge 1 0 1 : 1; addEdge 1 2 1 : 2; walksDrawn : ISE; startWalks 3 0 : IAE",
            "startWalks 0 3 : IAE; startWalks -1 0 : IAE; startWalks 0 -1 : IAE; startWalks 3 3 : IAE",
            "startWalks 2147483647 0 : IAE; startWalks 0 -2147483648 : IAE; walksDrawn : ISE; nextWalk : ISE",
            "startWalks 0 2; walksDrawn : 0; nextWalk : 2; nextWalk : 4; startWalks 0 2; walksDrawn : 0; walkEdges : NSE",
            "nextWalk : 2; startWalks 0 3 : IAE; walksDrawn : 1; nextWalk : 4; startWalks 1 2; nextWalk : 1; nextWalk : 3",
            "startWalks 2 0; nextWalk : NSE; startWalks 2 2; nextWalk : 0; nextWalk : NSE; pathsDrawn : ISE");
    }

    private static void nextWalk() {
        Runs.run("promise 19",
            "nextWalk : ISE; begin 3; addEdge 0 1 5 : 0; addEdge 1 0 2 : 1; addEdge 1 2 4 : 2; addEdge 0 2 20 : 3",
            "nextWalk : ISE; startWalks 0 2; nextWalk : 9; nextWalk : 16; walkEdges : 4; nextWalk : 20; walkEdges : 1",
            "nextWalk : 23; walkEdges : 6; nextWalk : 27; walkEdges : 3; walkEdge 2 : 3; nextWalk : 30; walksDrawn : 6",
            "toggleTurn 0 1 : true; toggleTurn 0 2 : true; nextWalk : 34; setLength 1 2 : 2; nextWalk : ISE",
            "toggleEdge 1 : true; startWalks 0 2; nextWalk : 9; nextWalk : 20; nextWalk : NSE; nextWalk : NSE",
            "walksDrawn : 2; walkEdges : 1; walkEdge 0 : 3; toggleNode 1 : true; startWalks 0 2; nextWalk : 20; nextWalk : NSE");
    }

    /** A walk may pass its last node; of equal lengths the lower edge at the first other place goes first. */
    private static void equalLengths() {
        Runs.run("equal lengths",
            "begin 3; addEdge 1 0 1 : 0; addEdge 0 1 1 : 1; addEdge 0 1 1 : 2; addEdge 0 2 1 : 3; addEdge 2 1 1 : 4",
            "startWalks 0 1; nextWalk : 1; walkEdge 0 : 1; nextWalk : 1; walkEdge 0 : 2; nextWalk : 2; walkEdge 0 : 3",
            "nextWalk : 3; walkEdge 0 : 1; walkEdge 1 : 0; walkEdge 2 : 1; nextWalk : 3; walkEdge 0 : 1; walkEdge 2 : 2",
            "nextWalk : 3; walkEdge 0 : 2; walkEdge 2 : 1; nextWalk : 3; walkEdge 0 : 2; walkEdge 2 : 2",
            "nextWalk : 4; walkEdge 0 : 1; walkEdge 1 : 0; walkEdge 2 : 3; walkEdge 3 : 4; nextWalk : 4; walkEdge 0 : 2",
            "nextWalk : 4; walkEdge 0 : 3; walkEdge 3 : 1; nextWalk : 4; walkEdge 0 : 3; walkEdge 3 : 2; nextWalk : 5");
        Runs.run("equal lengths, numbers of edges",
            "begin 3; addEdge 0 2 4 : 0; addEdge 0 1 1 : 1; addEdge 1 2 1 : 2; addEdge 2 1 1 : 3; addEdge 0 2 2 : 4",
            "startWalks 0 2; nextWalk : 2; walkEdge 0 : 1; nextWalk : 2; walkEdge 0 : 4; nextWalk : 4; walkEdges : 1",
            "walkEdge 0 : 0; nextWalk : 4; walkEdges : 4; walkEdge 0 : 1; nextWalk : 4; walkEdges : 3; walkEdge 0 : 4");
    }

    private static void sameNode() {
        Runs.run("same node",
            "begin 3; addEdge 0 1 2 : 0; addEdge 1 0 3 : 1; startWalks 0 0; nextWalk : 0; walkEdges : 0; walkEdge 0 : NSE",
            "walksDrawn : 1; nextWalk : 5; walkEdges : 2; walkEdge 0 : 0; walkEdge 1 : 1; nextWalk : 10; walkEdges : 4",
            "toggleNode 0 : true; startWalks 0 0; nextWalk : 0; nextWalk : NSE; walksDrawn : 1; walkEdges : 0",
            "walkEdge 0 : NSE; startWalks 0 1; nextWalk : NSE; startWalks 1 1; nextWalk : 0; nextWalk : NSE",
            "toggleNode 0 : false; toggleNode 1 : true; startWalks 0 0; nextWalk : 0; nextWalk : NSE");
    }

    private static void fiftyWalks() {
        Caller caller = new Caller(new Pathparade());
        Runs.run("fifty walks", caller, "addEdge 0 1 2 : 0; addEdge 1 0 1 : 1; startWalks 0 1");
        for (int walk = 0; walk < 50; walk++) {
            Runs.run("fifty walks", caller, "walksDrawn : " + walk, "nextWalk : " + (2 + 3 * walk),
                "walkEdges : " + (1 + 2 * walk), "walkEdge " + 2 * walk + " : 0");
        }
        Runs.run("fifty walks", caller, "nextWalk : ISE; nextWalk : ISE; walksDrawn : 50; walkEdges : 99; walkEdge 98 : 0",
            "walkEdge 97 : 1; walkEdge 99 : NSE; startPaths 0 1; nextPath : 2; nextWalk : ISE; startWalks 0 1; nextWalk : 2",
            "walksDrawn : 1; startWalks 1 0; nextWalk : 1; nextWalk : 4");
    }

    /** With fifty walks in all, the fifty-first call throws what goes first; with 49 it tells that all are drawn. */
    private static void fiftyThatAreAll() {
        for (int[] counts : new int[][] {{2, 5, 5}, {7, 7, 1}, {3, 4, 4}, {3, 17, 1}}) {
            Caller caller = new Caller(new Pathparade());
            Runs.run("all walks", caller, "begin 4");
            int edge = 0;
            for (int step = 0; step < 3; step++) {
                for (int i = 0; i < counts[step] && edge < 24; i++) {
                    Runs.run("all walks", caller, "addEdge " + step + " " + (step + 1) + " 1 : " + edge);
                    edge++;
                }
            }
            Runs.run("all walks", caller, "startWalks 0 3");
            int all = Math.min(50, counts[0] * counts[1] * counts[2]);
            for (int walk = 0; walk < all; walk++) {
                int place = walk / counts[2] % counts[1];
                Runs.run("all walks", caller, "nextWalk : 3", "walkEdge 1 : " + (counts[0] + place));
            }
            Runs.run("all walks", caller, all == 50 ? "nextWalk : ISE" : "nextWalk : NSE", "walksDrawn : " + all);
        }
    }

    private static void walksDrawn() {
        Runs.run("promise 20",
            "walksDrawn : ISE; addEdge 0 1 1 : 0; startPaths 0 1; walksDrawn : ISE; startWalks 0 1; walksDrawn : 0",
            "nextWalk : 1; walksDrawn : 1; nextWalk : NSE; walksDrawn : 1; nextPath : 1; walksDrawn : 1; setLength 0 1 : 1",
            "walksDrawn : ISE");
    }

    private static void walkEdges() {
        Runs.run("promise 21",
            "walkEdges : ISE; begin 3; addEdge 0 1 1 : 0; addEdge 1 2 1 : 1; addEdge 2 1 1 : 2; walkEdges : ISE",
            "startWalks 0 2; walkEdges : NSE; nextWalk : 2; walkEdges : 2; nextWalk : 4; walkEdges : 4; startWalks 0 2",
            "walkEdges : NSE; walkEdge 0 : NSE; startWalks 2 0; nextWalk : NSE; walkEdges : NSE; toggleEdge 0 : true; walkEdges : ISE");
    }

    private static void walkEdge() {
        Runs.run("promise 22",
            "walkEdge 0 : ISE; walkEdge -1 : ISE; begin 3; addEdge 0 1 1 : 0; addEdge 1 2 1 : 1; addEdge 2 0 1 : 2",
            "startWalks 0 1; walkEdge 0 : NSE; nextWalk : 1; walkEdge 0 : 0; walkEdge 1 : NSE; walkEdge -1 : NSE",
            "walkEdge 2147483647 : NSE; walkEdge -2147483648 : NSE; nextWalk : 4; walkEdge 0 : 0; walkEdge 1 : 1",
            "walkEdge 2 : 2; walkEdge 3 : 0; walkEdge 4 : NSE; toggleNode 0 : true; walkEdge 0 : ISE");
    }

    /** The longest walks that can be drawn: the fiftieth goes 49 times round all ten nodes. */
    private static void longWalks() {
        Caller caller = new Caller(new Pathparade());
        Runs.run("long walks", caller, "begin 10");
        for (int node = 0; node < 10; node++) {
            Runs.run("long walks", caller, "addEdge " + node + " " + (node + 1) % 10 + " 1000 : " + node);
        }
        Runs.run("long walks", caller, "startWalks 0 9");
        for (int walk = 0; walk < 50; walk++) {
            Runs.run("long walks", caller, "nextWalk : " + (9000 + 10000 * walk));
        }
        Runs.run("long walks", caller, "walkEdges : 499; walkEdge 498 : 8; walkEdge 0 : 0; walkEdge 250 : 0; walkEdge 499 : NSE",
            "nextWalk : ISE; startWalks 3 3; nextWalk : 0; nextWalk : 10000; walkEdge 0 : 3; walkEdge 9 : 2");
    }
}
