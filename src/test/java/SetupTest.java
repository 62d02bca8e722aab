/** Promises 33 to 37: setups, setupOf, setup, joinable, leastReach. */
final class SetupTest {
    private static final Class<IllegalArgumentException> RANGE = IllegalArgumentException.class;

    private SetupTest() {
    }

    static void run() {
        ShotListPlanner planner = Boards.loaded(Boards.TWO_SCENES);
        groups(planner);
        properties(planner);
        firstShotCounts();
        actorsOfAllShots();
        joinable(planner);
        refusedJoins();
        leastReach();
        ShotListPlanner empty = Boards.loaded(Boards.NO_SHOTS);
        Checks.answers("setups() without shots", 0, empty::setups);
        Checks.fails("setup(0, 0) without shots", RANGE, () -> empty.setup(0, 0));
        Checks.fails("setupOf(0) without shots", RANGE, () -> empty.setupOf(0));
        Checks.answers("leastReach(0) without shots", 0, () -> empty.leastReach(0));
    }

    private static void groups(ShotListPlanner planner) {
        int[] due = {0, 1, 0, 2, 3, 4};
        Checks.answers("setups()", 5, planner::setups);
        for (int i = 0; i < due.length; i++) {
            int shot = i;
            Checks.answers("setupOf(" + i + ")", due[i], () -> planner.setupOf(shot));
        }
        Checks.fails("setupOf(-1)", RANGE, () -> planner.setupOf(-1));
        Checks.fails("setupOf(6)", RANGE, () -> planner.setupOf(6));
    }

    private static void properties(ShotListPlanner planner) {
        int[][] due = {{0, 5, 9, 9, 0}, {1, 2, 2, 6, 0}, {3, 8, 10, 7, 0}, {4, 16, 37, 8, 1},
            {5, 32, 37, 9, 1}};
        for (int i = 0; i < 25; i++) {
            int setup = i / 5;
            int what = i % 5;
            Checks.answers("setup(" + setup + ", " + what + ")", due[setup][what],
                    () -> planner.setup(setup, what));
        }
        Checks.fails("setup(-1, 0)", RANGE, () -> planner.setup(-1, 0));
        Checks.fails("setup(5, 0)", RANGE, () -> planner.setup(5, 0));
        Checks.fails("setup(0, -1)", RANGE, () -> planner.setup(0, -1));
        Checks.fails("setup(0, 5)", RANGE, () -> planner.setup(0, 5));
    }

    /** A row of cameras, each near to the next one, but only the first shot of a setup counts. */
    private static void firstShotCounts() {
        ShotListPlanner planner = Boards.loaded("limits 10 2000 2000; scene 0; actor 0 0 0;"
                + "shot 10 0 0 none 1; shot 20 0 0 none 1; shot 30 0 0 none 1;"
                + "shot 25 0 0 none 1; shot 20 0 0 none 1;"
                + "scene 0; actor 0 0 0; shot 10 0 0 none 1;");
        int[] due = {0, 0, 1, 1, 0, 2};
        for (int i = 0; i < due.length; i++) {
            int shot = i;
            Checks.answers("setupOf(" + i + ") in a row", due[i], () -> planner.setupOf(shot));
        }
        Checks.answers("setup(0, 1) in a row", 19, () -> planner.setup(0, 1));
        Checks.answers("setup(1, 0) in a row", 2, () -> planner.setup(1, 0));
        planner.drop(0);
        Checks.answers("setups() behind drop(0)", 2, planner::setups);
        Checks.answers("setup(0, 1) behind drop(0)", 15, () -> planner.setup(0, 1));
        Checks.answers("setup(1, 4) behind drop(0)", 1, () -> planner.setup(1, 4));
    }

    private static void actorsOfAllShots() {
        ShotListPlanner planner = Boards.loaded("limits 0 2000 0; scene 0; actor 0 0 0;"
                + "actor 1 0 20; actor 5 90 90; shot 10 10 0 none 30; shot 10 10 1 none 40;");
        Checks.answers("setup(0, 2) of two shots", 3, () -> planner.setup(0, 2));
        Checks.answers("setup(0, 3) of two shots", 70, () -> planner.setup(0, 3));
    }

    private static void joinable(ShotListPlanner planner) {
        String before = Boards.stateOf(planner);
        int[] due = {6, 5, 6, 3, 16, 8};
        for (int i = 0; i < due.length; i++) {
            int shot = i;
            Checks.answers("joinable(" + i + ")", due[i], () -> planner.joinable(shot));
        }
        Checks.same("the board behind joinable()", before, Boards.stateOf(planner));
        Checks.answers("undo() behind joinable()", -2, planner::undo);
        Checks.fails("joinable(-1)", RANGE, () -> planner.joinable(-1));
        Checks.fails("joinable(6)", RANGE, () -> planner.joinable(6));
    }

    /** Setup 0 would make a jump of shot 1, setup 2 stands on the subject of shot 3. */
    private static void refusedJoins() {
        ShotListPlanner planner = Boards.loaded("limits 10 200 500;"
                + "scene 0; actor 0 50 50; actor 1 100 50; shot 75 10 0 1 5;"
                + "shot 75 90 0 none 5; shot 100 50 0 none 5; shot 75 90 1 none 5;"
                + "scene 0; actor 0 0 0; shot 1 0 0 none 5;");
        int[] due = {4, 8, 1, 3, 0};
        for (int i = 0; i < due.length; i++) {
            int shot = i;
            Checks.answers("joinable(" + i + ") with refusals", due[i],
                    () -> planner.joinable(shot));
        }
    }

    private static void leastReach() {
        ShotListPlanner planner = Boards.loaded(Boards.TWO_SCENES);
        Checks.answers("leastReach(12)", 0, () -> planner.leastReach(12));
        Checks.answers("leastReach(6)", 0, () -> planner.leastReach(6));
        Checks.answers("leastReach(5)", 5, () -> planner.leastReach(5));
        Checks.answers("leastReach(4)", -2, () -> planner.leastReach(4));
        Checks.answers("leastReach(0)", -2, () -> planner.leastReach(0));
        Checks.answers("count(2) behind leastReach()", 10, () -> planner.count(2));
        Checks.answers("setups() behind leastReach()", 5, planner::setups);
        Checks.answers("setupOf(5) behind leastReach()", 4, () -> planner.setupOf(5));
        Checks.fails("leastReach(-1)", RANGE, () -> planner.leastReach(-1));
        Checks.fails("leastReach(13)", RANGE, () -> planner.leastReach(13));
        ShotListPlanner far = Boards.loaded("limits 0 2000 0; scene 0; actor 0 0 0;"
                + "shot 1 0 0 none 5; shot 100 0 0 none 5;");
        Checks.answers("leastReach(1) of 99 apart", 99, () -> far.leastReach(1));
        Checks.answers("leastReach(2) of 99 apart", 0, () -> far.leastReach(2));
        far.moveCamera(1, 100, 1);
        Checks.answers("leastReach(1) of 100 apart", -2, () -> far.leastReach(1));
    }
}
