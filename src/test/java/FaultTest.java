import java.util.NoSuchElementException;

/** Promises 28 to 32: faults, fault, faultsOf, faultsWith, bestShot. */
final class FaultTest {
    private static final Class<IllegalArgumentException> RANGE = IllegalArgumentException.class;
    private static final int AXIS = 1;
    private static final int EYELINE = 2;
    private static final int JUMP = 4;
    private static final int BLOCKED = 8;

    private FaultTest() {
    }

    static void run() {
        list();
        axis();
        eyeline();
        jump();
        blocked();
        faultsWith();
        bestShot();
        bestShotOfManyShots();
    }

    private static void list() {
        ShotListPlanner planner = Boards.loaded(Boards.TWO_SCENES);
        int[][] due = {{1, 0, 0}, {1, 1, 0}, {4, 3, 2}};
        Checks.answers("faults()", due.length, planner::faults);
        for (int i = 0; i < 9; i++) {
            int index = i / 3;
            int what = i % 3;
            Checks.answers("fault(" + index + ", " + what + ")", due[index][what],
                    () -> planner.fault(index, what));
        }
        Checks.fails("fault(3, 0)", NoSuchElementException.class, () -> planner.fault(3, 0));
        Checks.fails("fault(most, 2)", NoSuchElementException.class,
                () -> planner.fault(Integer.MAX_VALUE, 2));
        Checks.fails("fault(-1, 0)", RANGE, () -> planner.fault(-1, 0));
        Checks.fails("fault(0, -1)", RANGE, () -> planner.fault(0, -1));
        Checks.fails("fault(0, 3)", RANGE, () -> planner.fault(0, 3));
        Checks.fails("fault(3, 3)", RANGE, () -> planner.fault(3, 3));
        int[] kinds = {0, AXIS | EYELINE, 0, 0, BLOCKED, 0};
        for (int i = 0; i < kinds.length; i++) {
            int shot = i;
            Checks.answers("faultsOf(" + i + ")", kinds[i], () -> planner.faultsOf(shot));
        }
        Checks.fails("faultsOf(-1)", RANGE, () -> planner.faultsOf(-1));
        Checks.fails("faultsOf(6)", RANGE, () -> planner.faultsOf(6));
        ShotListPlanner empty = Boards.loaded(Boards.NO_SHOTS);
        Checks.answers("faults() without shots", 0, empty::faults);
        Checks.fails("fault(0, 0) without shots", NoSuchElementException.class,
                () -> empty.fault(0, 0));
    }

    /** Two shots of actors 0 (50, 50), 1 (100, 50) and 2 (75, 99): the kinds of the second one. */
    private static void pair(String name, int due, String first, String second) {
        ShotListPlanner planner = Boards.loaded("limits 10 200 300;"
                + "scene 1; actor 0 50 50; actor 1 100 50; actor 2 75 99;" + first + second);
        Checks.answers("faultsOf(1) of " + name, due, () -> planner.faultsOf(1));
        Checks.answers("faultsOf(0) of " + name, 0, () -> planner.faultsOf(0));
        Checks.answers("faults() of " + name, Integer.bitCount(due), planner::faults);
    }

    private static void axis() {
        String below = "shot 70 10 0 1 5;";
        pair("the axis crossed", AXIS, below, "shot 70 90 0 1 5;");
        pair("the axis crossed from above", AXIS, "shot 70 90 0 1 5;", below);
        pair("the axis crossed with the looks apart", AXIS, "shot 70 90 1 0 5;",
                "shot 70 10 1 0 5;");
        pair("two cameras on one side", 0, below, "shot 90 10 0 1 5;");
        pair("a camera on the axis", 0, below, "shot 10 50 0 1 5;");
        pair("a camera without a partner", 0, below, "shot 70 90 0 none 5;");
        pair("a first camera without a partner", 0, "shot 70 90 0 none 5;", below);
        pair("two cameras without partners", 0, "shot 70 90 0 none 5;", "shot 70 10 0 none 5;");
        pair("another pair", 0, below, "shot 70 90 0 2 5;");
        pair("another subject", 0, below, "shot 70 90 2 1 5;");
        pair("another scene", 0, below,
                "scene 0; actor 0 50 50; actor 1 100 50; shot 70 90 0 1 5;");
    }

    private static void eyeline() {
        pair("both looks to the right", AXIS | EYELINE, "shot 75 10 0 1 5;", "shot 75 90 1 0 5;");
        pair("both looks to the left", AXIS | EYELINE, "shot 75 90 0 1 5;", "shot 75 10 1 0 5;");
        pair("the looks apart", 0, "shot 75 10 0 1 5;", "shot 75 10 1 0 5;");
        pair("a look of 0", 0, "shot 10 50 0 1 5;", "shot 120 50 1 2 5;");
        pair("the same subject", 0, "shot 60 10 0 1 5;", "shot 90 10 0 1 5;");
        pair("another partner", 0, "shot 75 10 0 1 5;", "shot 75 90 1 2 5;");
        pair("both looks 0", 0, "shot 40 50 0 1 5;", "shot 110 50 1 0 5;");
    }

    private static void jump() {
        pair("a jump", JUMP, "shot 75 10 0 1 5;", "shot 80 10 0 none 5;");
        pair("a jump without partners", JUMP, "shot 75 10 0 none 5;", "shot 75 10 0 none 5;");
        pair("a jump over the axis", AXIS | JUMP, "shot 70 49 0 1 5;", "shot 70 51 0 1 5;");
        pair("cameras 10 apart", JUMP, "shot 75 10 2 none 5;", "shot 85 10 2 none 5;");
        pair("cameras 11 apart", 0, "shot 75 10 2 none 5;", "shot 86 10 2 none 5;");
        pair("another subject near by", 0, "shot 75 10 0 1 5;", "shot 75 10 1 none 5;");
        pair("a turn", 0, "shot 50 49 0 none 5;", "shot 51 50 0 none 5;");
    }

    private static void blocked() {
        ShotListPlanner planner = Boards.loaded("limits 0 0 0; scene 0; actor 3 40 30;"
                + "actor 4 90 90; actor 5 0 0; shot 10 10 3 none 1;");
        int[][] due = {{25, 20, 4}, {13, 12, 4}, {37, 28, 4}, {40, 30, -1}, {10, 10, -1},
            {43, 32, -1}, {7, 8, -1}, {25, 21, -1}, {24, 20, -1}, {25, 10, -1}};
        for (int[] row : due) {
            planner.moveActor(0, 4, row[0], row[1]);
            String name = "with actor 4 at " + row[0] + ", " + row[1];
            Checks.answers("faultsOf(0) " + name, row[2] < 0 ? 0 : BLOCKED,
                    () -> planner.faultsOf(0));
            if (row[2] >= 0) {
                Checks.answers("fault(0, 2) " + name, row[2], () -> planner.fault(0, 2));
            }
        }
        planner.moveActor(0, 5, 28, 22);
        planner.moveActor(0, 4, 31, 24);
        Checks.answers("fault(0, 2) of two blockers", 4, () -> planner.fault(0, 2));
        Checks.answers("faults() of two blockers", 1, planner::faults);
        planner.setCast(0, 3, 4);
        Checks.answers("fault(0, 2) of a partner", 4, () -> planner.fault(0, 2));
        planner.setCast(0, 4, -1);
        Checks.answers("fault(0, 2) of a nearer subject", 5, () -> planner.fault(0, 2));
        planner.setCast(0, 5, -1);
        Checks.answers("faults() of the nearest subject", 0, planner::faults);
        straightViews();
    }

    private static void straightViews() {
        ShotListPlanner planner = Boards.loaded("limits 0 0 0; scene 0; actor 0 50 10;"
                + "actor 1 10 50; actor 2 10 30; actor 3 30 10; shot 10 10 0 none 1;"
                + "shot 10 10 1 none 1; shot 90 10 3 none 1;");
        Checks.answers("fault(0, 2) along x", 3, () -> planner.fault(0, 2));
        Checks.answers("fault(1, 2) along y", 2, () -> planner.fault(1, 2));
        Checks.answers("fault(2, 2) against x", 0, () -> planner.fault(2, 2));
    }

    private static void faultsWith() {
        ShotListPlanner planner = Boards.loaded(Boards.TWO_SCENES);
        String before = Boards.stateOf(planner);
        Checks.answers("faultsWith(1, 75, 15)", 1, () -> planner.faultsWith(1, 75, 15));
        Checks.answers("faultsWith(1, 75, 90)", 3, () -> planner.faultsWith(1, 75, 90));
        Checks.answers("faultsWith(4, 10, 11)", 2, () -> planner.faultsWith(4, 10, 11));
        Checks.answers("faultsWith(0, 0, 199)", 1, () -> planner.faultsWith(0, 0, 199));
        Checks.answers("faultsWith(1, 100, 50)", -2, () -> planner.faultsWith(1, 100, 50));
        Checks.same("the board behind faultsWith()", before, Boards.stateOf(planner));
        Checks.answers("undo() behind faultsWith()", -2, planner::undo);
        Checks.fails("faultsWith(-1, 0, 0)", RANGE, () -> planner.faultsWith(-1, 0, 0));
        Checks.fails("faultsWith(6, 0, 0)", RANGE, () -> planner.faultsWith(6, 0, 0));
        Checks.fails("faultsWith(0, -1, 0)", RANGE, () -> planner.faultsWith(0, -1, 0));
        Checks.fails("faultsWith(0, 200, 0)", RANGE, () -> planner.faultsWith(0, 200, 0));
        Checks.fails("faultsWith(0, 0, -1)", RANGE, () -> planner.faultsWith(0, 0, -1));
        Checks.fails("faultsWith(0, 0, 200)", RANGE, () -> planner.faultsWith(0, 0, 200));
    }

    private static void bestShot() {
        ShotListPlanner planner = Boards.loaded(Boards.TWO_SCENES);
        int[][] due = {{0, 3, 2, 1}, {4, 5}};
        for (int i = 0; i < 6; i++) {
            int scene = i / 4;
            int place = i % 4;
            Checks.answers("bestShot(" + scene + ", " + place + ")", due[scene][place],
                    () -> planner.bestShot(scene, place));
        }
        Checks.fails("bestShot(0, 4)", NoSuchElementException.class, () -> planner.bestShot(0, 4));
        Checks.fails("bestShot(1, 2)", NoSuchElementException.class, () -> planner.bestShot(1, 2));
        Checks.fails("bestShot(-1, 0)", RANGE, () -> planner.bestShot(-1, 0));
        Checks.fails("bestShot(2, 0)", RANGE, () -> planner.bestShot(2, 0));
        Checks.fails("bestShot(0, -1)", RANGE, () -> planner.bestShot(0, -1));
        ShotListPlanner empty = Boards.loaded(Boards.NO_SHOTS);
        Checks.fails("bestShot(0, 0) without shots", NoSuchElementException.class,
                () -> empty.bestShot(0, 0));
    }

    private static void bestShotOfManyShots() {
        ShotListPlanner planner = Boards.loaded("limits 9 2000 0; scene 0; actor 0 0 0;"
                + "actor 1 9 9; scene 0; actor 0 50 50; actor 1 100 50;"
                + "shot 60 10 0 none 1; shot 60 10 0 none 1; shot 60 10 0 none 1;"
                + "shot 60 10 1 none 1; shot 60 10 1 none 1; shot 60 10 1 none 1;"
                + "shot 60 10 1 none 1;");
        Checks.answers("bestShot(1, 0) of seven shots", -2, () -> planner.bestShot(1, 0));
        Checks.answers("bestShot(1, 7) of seven shots", -2, () -> planner.bestShot(1, 7));
        Checks.fails("bestShot(1, -1) of seven shots", RANGE, () -> planner.bestShot(1, -1));
        Checks.fails("bestShot(0, 0) of no shot", NoSuchElementException.class,
                () -> planner.bestShot(0, 0));
        planner.drop(6);
        int[] due = {0, 3, 1, 4, 2, 5};
        for (int i = 0; i < due.length; i++) {
            int place = i;
            Checks.answers("bestShot(1, " + i + ") of six shots", due[i],
                    () -> planner.bestShot(1, place));
        }
        Checks.fails("bestShot(1, 6) of six shots", NoSuchElementException.class,
                () -> planner.bestShot(1, 6));
    }
}
