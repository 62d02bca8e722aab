/** Promises 6 to 9: count, scene, actor, shot. */
final class BoardTest {
    private static final Class<IllegalArgumentException> RANGE = IllegalArgumentException.class;

    private BoardTest() {
    }

    static void run() {
        ShotListPlanner planner = Boards.loaded(Boards.TWO_SCENES);
        counts(planner);
        scenes(planner);
        actors(planner);
        shots(planner);
        ShotListPlanner empty = Boards.loaded(Boards.NO_SHOTS);
        Checks.answers("count(1) without shots", 0, () -> empty.count(1));
        Checks.answers("count(5) without shots", 0, () -> empty.count(5));
        Checks.answers("scene(0, 2) without shots", 0, () -> empty.scene(0, 2));
        Checks.fails("shot(0, 0) without shots", RANGE, () -> empty.shot(0, 0));
    }

    private static void counts(ShotListPlanner planner) {
        int[] due = {2, 6, 10, 200, 500, 39};
        for (int what = 0; what < due.length; what++) {
            int asked = what;
            Checks.answers("count(" + what + ")", due[what], () -> planner.count(asked));
        }
        Checks.fails("count(-1)", RANGE, () -> planner.count(-1));
        Checks.fails("count(6)", RANGE, () -> planner.count(6));
    }

    private static void scenes(ShotListPlanner planner) {
        int[][] due = {{1, 11, 4}, {3, 37, 2}};
        for (int i = 0; i < 6; i++) {
            int scene = i / 3;
            int what = i % 3;
            Checks.answers("scene(" + scene + ", " + what + ")", due[scene][what],
                    () -> planner.scene(scene, what));
        }
        Checks.fails("scene(-1, 0)", RANGE, () -> planner.scene(-1, 0));
        Checks.fails("scene(2, 0)", RANGE, () -> planner.scene(2, 0));
        Checks.fails("scene(0, -1)", RANGE, () -> planner.scene(0, -1));
        Checks.fails("scene(0, 3)", RANGE, () -> planner.scene(0, 3));
    }

    private static void actors(ShotListPlanner planner) {
        Checks.answers("actor(0, 3, false)", 75, () -> planner.actor(0, 3, false));
        Checks.answers("actor(0, 3, true)", 100, () -> planner.actor(0, 3, true));
        Checks.answers("actor(1, 0, false)", 10, () -> planner.actor(1, 0, false));
        Checks.answers("actor(0, 0, true)", 50, () -> planner.actor(0, 0, true));
        Checks.fails("actor(0, 2, true)", RANGE, () -> planner.actor(0, 2, true));
        Checks.fails("actor(1, 1, true)", RANGE, () -> planner.actor(1, 1, true));
        Checks.fails("actor(0, -1, true)", RANGE, () -> planner.actor(0, -1, true));
        Checks.fails("actor(0, 6, true)", RANGE, () -> planner.actor(0, 6, true));
        Checks.fails("actor(0, 32, true)", RANGE, () -> planner.actor(0, 32, true));
        Checks.fails("actor(2, 0, true)", RANGE, () -> planner.actor(2, 0, true));
        Checks.fails("actor(-1, 0, true)", RANGE, () -> planner.actor(-1, 0, true));
    }

    private static void shots(ShotListPlanner planner) {
        int[][] due = {{0, 75, 10, 0, 1, 5}, {0, 75, 90, 1, 0, 6}, {0, 80, 10, 0, -1, 4},
            {0, 60, 10, 1, 0, 7}, {1, 40, 10, 0, 2, 8}, {1, 5, 40, 2, 0, 9}};
        for (int i = 0; i < 36; i++) {
            int shot = i / 6;
            int what = i % 6;
            Checks.answers("shot(" + shot + ", " + what + ")", due[shot][what],
                    () -> planner.shot(shot, what));
        }
        Checks.fails("shot(-1, 0)", RANGE, () -> planner.shot(-1, 0));
        Checks.fails("shot(6, 0)", RANGE, () -> planner.shot(6, 0));
        Checks.fails("shot(0, -1)", RANGE, () -> planner.shot(0, -1));
        Checks.fails("shot(0, 6)", RANGE, () -> planner.shot(0, 6));
    }
}
