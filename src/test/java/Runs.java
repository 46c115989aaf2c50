/** Runs of calls with the answers that are due, and the count of the wrong ones. */
final class Runs {
    private static int calls;
    private static int wrong;

    private Runs() {
    }

    /** Makes the calls on a new object. A row: "call : answer", several calls apart by ";" where each answer is due. */
    static void run(String title, String... rows) {
        run(title, new Caller(new Pathparade()), rows);
    }

    static void run(String title, Caller caller, String... rows) {
        for (String row : rows) {
            for (String part : row.split(";")) {
                int colon = part.indexOf(':');
                String call = colon < 0 ? part : part.substring(0, colon);
                String due = colon < 0 ? "ok" : part.substring(colon + 1).trim();
                due(title + ", " + call.trim(), caller.answer(call), longName(due));
            }
        }
    }

    static void due(String what, String got, String due) {
        calls++;
        if (!got.equals(due)) {
            wrong++;
            System.out.println(what + " answered " + got + ", due is " + due);
        }
    }

    /** Ends the program, with exit code 1 if an answer was wrong. */
    static void end(String name) {
        System.out.println(name + ": " + calls + " answers, " + wrong + " wrong");
        System.exit(wrong == 0 && calls > 0 ? 0 : 1);
    }

    private static String longName(String due) {
        switch (due) {
            case "IAE":
                return "IllegalArgumentException";
            case "ISE":
                return "IllegalStateException";
            case "NSE":
                return "NoSuchElementException";
            default:
                return due;
        }
    }
}
