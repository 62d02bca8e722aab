import java.util.function.Supplier;

/**
 * Planners with a past, and all that can be told of them: what a refused call or a question must
 * leave as it is.
 */
final class Lived {
    private static final int MOST_TEXT = 800;

    private Lived() {
    }

    /**
     * A planner with this board, two actions behind it, a plan of other limits, an error position
     * of 7 and a text of 33 bytes in its buffer.
     */
    static ShotListPlanner with(String board) {
        ShotListPlanner planner = Boards.loaded(board);
        int light = planner.scene(0, 0);
        planner.setLight(0, (light + 1) % 4);
        planner.setLight(0, light);
        planner.setLimits(99, 2000, 2000);
        planner.writePlan();
        planner.undo();
        Boards.put(planner, "limits x");
        planner.load();
        Boards.put(planner, Boards.NO_SHOTS);
        return planner;
    }

    /** Each call is made on a planner of its own, must answer as is due, and change nothing. */
    static void leaves(String board, String due, String... calls) {
        leaves(() -> with(board), due, calls);
    }

    static void leaves(Supplier<ShotListPlanner> maker, String due, String... calls) {
        String untouched = everythingOf(maker.get());
        for (String call : calls) {
            ShotListPlanner planner = maker.get();
            Checks.same(call, due, Calls.answer(planner, call));
            Checks.same("everything behind " + call, untouched, everythingOf(planner));
        }
    }

    /** As leaves(), for questions whose answers do not matter. */
    static void areQuestions(Supplier<ShotListPlanner> maker, String... calls) {
        String untouched = everythingOf(maker.get());
        for (String call : calls) {
            ShotListPlanner planner = maker.get();
            String first = Calls.answer(planner, call);
            Checks.same(call + " again", first, Calls.answer(planner, call));
            Checks.same("everything behind " + call, untouched, everythingOf(planner));
        }
    }

    /** An action that succeeds on a planner of its own, and is undone without a trace. */
    static void canUndo(String board, String due, String call) {
        ShotListPlanner planner = with(board);
        Checks.same(call, due, Calls.answer(planner, call));
        Checks.answers("undo() of " + call, 2, planner::undo);
        Checks.same("everything behind undo() of " + call, everythingOf(with(board)),
                everythingOf(planner));
    }

    /** All that a planner tells, also what it only tells by undo() and load(): uses it up. */
    static String everythingOf(ShotListPlanner planner) {
        StringBuilder all = new StringBuilder();
        all.append("error ").append(planner.errorPosition());
        all.append(" buffer ").append(bufferOf(planner)).append('\n');
        String undone = "-2";
        do {
            all.append(undone).append(": ").append(answersOf(planner)).append('\n');
            undone = Calls.answer(planner, "undo()");
        } while (!undone.equals("-2") && !undone.equals(Calls.STATE));
        all.append("load ").append(planner.load()).append(' ').append(planner.errorPosition());
        return all.append(' ').append(answersOf(planner)).toString();
    }

    /** The length of the buffer: the greatest one that it can be truncated to. */
    static int bufferOf(ShotListPlanner planner) {
        int length = MOST_TEXT;
        while (Calls.answer(planner, "truncate(" + length + ")").equals(Calls.RANGE)) {
            length--;
        }
        return length;
    }

    /** The board, what follows from it, and the plan. */
    static String answersOf(ShotListPlanner planner) {
        if (Calls.answer(planner, "count(0)").equals(Calls.STATE)) {
            return "no board";
        }
        StringBuilder all = new StringBuilder(Boards.stateOf(planner));
        int shots = planner.count(1);
        int setups = planner.setups();
        String[] ofShots = {"view", "side", "look", "visible", "eyeline", "faultsOf", "setupOf",
            "joinable"};
        for (String name : ofShots) {
            ask(all, planner, name, shots);
        }
        ask(all, planner, "fault", planner.faults(), 3);
        ask(all, planner, "isNear", shots, shots);
        ask(all, planner, "bestShot", planner.count(0), 7);
        ask(all, planner, "leastReach", 13);
        ask(all, planner, "setup", setups, 5);
        ask(all, planner, "change", setups, setups);
        ask(all, planner, "ordered", setups);
        ask(all, planner, "days", 30);
        ask(all, planner, "stay", 6);
        all.append(planner.plainCost()).append(' ').append(planner.bestCost()).append(' ');
        for (int i = 0; !Calls.answer(planner, "planByte(" + i + ")").startsWith("throws"); i++) {
            all.append((char) planner.planByte(i));
        }
        // An exception of the machine would be the same before and behind a call.
        Checks.same("an exception of the machine", false,
                all.toString().matches("(?s).*(Bounds|Null|Arithmetic|Negative|Cast|Store).*"));
        return all.toString();
    }

    private static void ask(StringBuilder all, ShotListPlanner planner, String name, int most) {
        for (int i = 0; i < most; i++) {
            all.append(Calls.answer(planner, name + "(" + i + ")")).append(' ');
        }
    }

    private static void ask(StringBuilder all, ShotListPlanner planner, String name, int most,
            int mostOfSecond) {
        for (int i = 0; i < most; i++) {
            for (int k = 0; k < mostOfSecond; k++) {
                all.append(Calls.answer(planner, name + "(" + i + ", " + k + ")")).append(' ');
            }
        }
    }
}
