import java.util.ArrayList;
import java.util.List;

/** Makes the same calls on the program and on the model, over networks of many kinds, and compares all answers. */
final class ModelTest {
    private static final int RUNS = 600;
    private static final int CALLS = 500;
    /** From this call on draws go on without a change, so that they come far. */
    private static final int STILL = 300;

    /** A number sequence of our own, so that each run of the test is the same. */
    private static final class Numbers {
        private long state;

        Numbers(long seed) {
            state = seed * 7919 + 12345;
        }

        int below(int bound) {
            state = state * 6364136223846793005L + 1442695040888963407L;
            return (int) ((state >>> 33) % bound);
        }
    }

    private final Numbers numbers;
    private final Caller program = new Caller(new Pathparade());
    private final Caller model = new Caller(new Model());
    private final List<String> calls = new ArrayList<>();
    /** The calls that would open again what is closed. */
    private final List<String> closings = new ArrayList<>();
    private final int mostLength;
    private int nodes = 2;
    private int edges;

    private ModelTest(int run) {
        numbers = new Numbers(run);
        mostLength = new int[] {1, 2, 4, 30, 1000}[run % 5];
    }

    public static void main(String[] args) {
        for (int run = 0; run < RUNS; run++) {
            new ModelTest(run).compare(run);
        }
        Runs.end("ModelTest");
    }

    private void compare(int run) {
        for (int call = 0; call < CALLS; call++) {
            calls.add(choose(run, call));
            String made = calls.get(calls.size() - 1);
            String due = model.answer(made);
            String got = program.answer(made);
            Runs.due("run " + run + " call " + call + " " + made, got, due);
            noteClosing(made, due);
            nodes = Integer.parseInt(model.answer("nodes"));
            edges = Integer.parseInt(model.answer("edges"));
            if (!got.equals(due)) {
                System.out.println("after " + calls);
                return;
            }
        }
    }

    private void noteClosing(String call, String answer) {
        if ((call.startsWith("toggleEdge") || call.startsWith("toggleNode")) && answer.equals("true")) {
            closings.add(call);
        } else if (answer.equals("false")) {
            closings.remove(call);
        }
    }

    private String choose(int run, int call) {
        if (call == 0) {
            return "begin " + (2 + numbers.below(9));
        }
        if (call < 40 && edges < kindEdges(run)) {
            return edge();
        }
        boolean opens = call < STILL && (call > STILL - 40 || numbers.below(20) == 0);
        if (opens && !closings.isEmpty()) {
            return closings.get(0);
        }
        return call < STILL ? any() : still(call);
    }

    private String still(int call) {
        if (call % 100 == 0) {
            return "startWalks " + ends();
        }
        if (call % 100 == 1) {
            return "startPaths " + numbers.below(nodes) + " " + numbers.below(nodes);
        }
        switch (numbers.below(10)) {
            case 0:
                return "pathEdge " + numbers.below(6);
            case 1:
                return "walkEdge " + numbers.below(20);
            case 2:
                return numbers.below(2) == 0 ? "pathEdges" : "walkEdges";
            case 3:
            case 4:
            case 5:
                return "nextPath";
            default:
                return "nextWalk";
        }
    }

    /** Few enough edges for the model, which lists all sets of disjoint paths. */
    private int kindEdges(int run) {
        return Math.min(24, 5 + nodes * (1 + run % 3));
    }

    private String edge() {
        int from = numbers.below(nodes);
        int to = (from + 1 + numbers.below(nodes - 1)) % nodes;
        return "addEdge " + from + " " + to + " " + (1 + numbers.below(mostLength));
    }

    private String any() {
        switch (numbers.below(20)) {
            case 0:
                return change();
            case 1:
                return "toggleTurn " + number() + " " + number();
            case 2:
                return "distance " + ends();
            case 3:
                return "countPaths " + ends() + " " + (numbers.below(9) == 0 ? numbers.below(100003) - 1 : around());
            case 4:
                return "startPaths " + ends();
            case 5:
                return "startWalks " + ends();
            case 6:
                return "disjointPaths " + ends() + " " + flag();
            case 7:
                return "disjointLength " + ends() + " " + (numbers.below(20) == 0 ? 5 : numbers.below(5)) + " " + flag();
            case 8:
                return "allowedLength " + ends();
            case 9:
                return "allowedEdges " + ends();
            case 10:
                return "allowedEdge " + ends() + " " + (numbers.below(6) - 1);
            case 11:
                return "pathEdge " + (numbers.below(7) - 1);
            case 12:
                return "walkEdge " + (numbers.below(12) - 1);
            case 13:
                return new String[] {"pathEdges", "pathsDrawn", "walkEdges", "walksDrawn", "usableEdges"}[numbers.below(5)];
            case 14:
                return turn();
            case 15:
            case 16:
                return "nextPath";
            default:
                return "nextWalk";
        }
    }

    /** Changes are rare, so that draws go on for a while. */
    private String change() {
        switch (numbers.below(6)) {
            case 0:
                return "setLength " + number() + " " + numbers.below(mostLength + 2);
            case 1:
                return "toggleNode " + (numbers.below(nodes + 2) - 1);
            case 2:
                return "toggleEdge " + number();
            case 3:
                return numbers.below(3) == 0 ? edge() : "nextPath";
            case 4:
                return "addEdge " + ends() + " " + (numbers.below(2) * 1001);
            default:
                return "begin " + numbers.below(2) * 11;
        }
    }

    /** A turn that exists, if a few tries find one. */
    private String turn() {
        for (int i = 0; i < 30 && edges > 0; i++) {
            String pair = numbers.below(edges) + " " + numbers.below(edges);
            if (!model.answer("toggleTurn " + pair).equals("IllegalArgumentException")) {
                model.answer("toggleTurn " + pair);
                return "toggleTurn " + pair;
            }
        }
        return "nextWalk";
    }

    private int around() {
        return numbers.below(mostLength * 6);
    }

    private int number() {
        return numbers.below(edges + 2) - 1;
    }

    private String flag() {
        return numbers.below(2) == 0 ? "true" : "false";
    }

    private String ends() {
        if (numbers.below(25) == 0) {
            return numbers.below(nodes + 2) - 1 + " " + (numbers.below(nodes + 2) - 1);
        }
        return numbers.below(nodes) + " " + numbers.below(nodes);
    }
}
