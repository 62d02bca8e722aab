import java.util.NoSuchElementException;

/** Promises 44 to 46: writePlan, planByte, undo. */
final class PlanTest {
    private static final String PLAN = "setup 1 1\nsetup 2 3\nsetup 0 0 2\nsetup 3 4\nsetup 4 5\n"
            + "shot 1 axis 0\nshot 1 eyeline 0\nshot 4 blocked 2\n";

    private PlanTest() {
    }

    static void run() {
        plan();
        replacedPlan();
        longPlan();
        undo();
        rememberedActions();
    }

    private static void plan() {
        ShotListPlanner planner = Boards.loaded(Boards.TWO_SCENES);
        Checks.fails("planByte(0) before a plan", NoSuchElementException.class,
                () -> planner.planByte(0));
        Checks.answers("writePlan()", PLAN.length(), planner::writePlan);
        Checks.same("the plan", PLAN, Boards.planOf(planner, PLAN.length()));
        Checks.fails("planByte() behind the plan", NoSuchElementException.class,
                () -> planner.planByte(PLAN.length()));
        Checks.fails("planByte(most)", NoSuchElementException.class,
                () -> planner.planByte(Integer.MAX_VALUE));
        Checks.fails("planByte(-1)", IllegalArgumentException.class, () -> planner.planByte(-1));
        Checks.answers("undo() behind writePlan()", -2, planner::undo);
    }

    private static void replacedPlan() {
        ShotListPlanner planner = Boards.loaded(Boards.TWO_SCENES);
        planner.writePlan();
        planner.shift(2, 1);
        planner.undo();
        Boards.put(planner, Boards.NO_SHOTS);
        planner.load();
        Checks.same("the plan behind undo() and load()", PLAN,
                Boards.planOf(planner, PLAN.length()));
        Checks.answers("writePlan() without shots", 0, planner::writePlan);
        Checks.fails("planByte(0) of it", NoSuchElementException.class, () -> planner.planByte(0));
        Boards.put(planner, Boards.PAIR);
        planner.load();
        planner.shift(2, 1);
        String due = "setup 0 0 1\nsetup 1 2\nshot 1 jump 0\n";
        Checks.answers("writePlan() of a jump", due.length(), planner::writePlan);
        Checks.same("the plan of a jump", due, Boards.planOf(planner, due.length()));
    }

    /** Twelve shots over one axis: numbers of two digits, and all faults but the first shot's. */
    private static void longPlan() {
        StringBuilder text = new StringBuilder("limits 99 2000 0; scene 0;"
                + "actor 0 50 50; actor 1 100 50; actor 2 70 45; actor 3 70 55;");
        StringBuilder due = new StringBuilder("setup 0 0 1 2 3 4 5 6 7 8 9 10 11\n");
        for (int shot = 0; shot < 12; shot++) {
            text.append(shot % 2 == 0 ? "shot 90 40 0 1 1;" : "shot 90 60 0 1 1;");
            if (shot > 0) {
                String start = "shot " + shot + " ";
                due.append(start).append("axis ").append(shot - 1).append('\n');
                due.append(start).append("jump ").append(shot - 1).append('\n');
            }
            due.append("shot ").append(shot).append(" blocked ").append(2 + shot % 2).append('\n');
        }
        ShotListPlanner planner = Boards.loaded(text.toString());
        Checks.answers("writePlan() of many faults", due.length(), planner::writePlan);
        Checks.same("the plan of many faults", due.toString(),
                Boards.planOf(planner, due.length()));
    }

    private static void undo() {
        ShotListPlanner planner = Boards.loaded(Boards.TWO_SCENES);
        String before = Boards.stateOf(planner);
        Checks.answers("undo() of a new board", -2, planner::undo);
        planner.setLimits(1, 1, 1);
        planner.setLight(0, 0);
        planner.drop(2);
        Boards.put(planner, "limits x");
        Checks.answers("undo() of drop()", 2, planner::undo);
        Checks.answers("truncate() behind undo()", 8, () -> planner.truncate(8));
        planner.load();
        Checks.answers("undo() of setLight()", 1, planner::undo);
        Checks.answers("errorPosition() behind undo()", 7, planner::errorPosition);
        Checks.answers("undo() of setLimits()", 0, planner::undo);
        Checks.answers("undo() behind all", -2, planner::undo);
        Checks.same("the board behind undo()", before, Boards.stateOf(planner));
        planner.setLength(0, 50);
        planner.setLength(0, 60);
        planner.undo();
        planner.setLength(0, 70);
        Checks.answers("undo() behind undo() and an action", 1, planner::undo);
        Checks.answers("the length behind it", 50, () -> planner.shot(0, 5));
    }

    private static void rememberedActions() {
        ShotListPlanner planner = Boards.loaded(Boards.TWO_SCENES);
        for (int seconds = 1; seconds <= 25; seconds++) {
            planner.setLength(0, seconds);
        }
        for (int left = 9; left >= 0; left--) {
            Checks.answers("undo() down to " + left, left, planner::undo);
            int due = 15 + left;
            Checks.answers("the length then", due, () -> planner.shot(0, 5));
        }
        Checks.answers("undo() of an eleventh action", -2, planner::undo);
        Checks.answers("the length then", 15, () -> planner.shot(0, 5));
    }
}
