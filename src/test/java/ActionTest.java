/** Promises 10 to 20: the actions. That they can be undone is tested here, too. */
final class ActionTest {
    private static final Class<IllegalArgumentException> RANGE = IllegalArgumentException.class;
    /** A jump, a blocked view and a camera on a subject are one step away. */
    private static final String JOINS = "limits 10 200 500;"
            + "scene 0; actor 0 50 50; actor 1 100 50;"
            + "shot 75 10 0 1 5; shot 75 90 0 none 5; shot 100 50 0 none 5; shot 75 90 1 none 5;"
            + "scene 0; actor 0 0 0; shot 1 0 0 none 5;";

    private ActionTest() {
    }

    /** An action that must succeed: its answer, what it changes, and that undo takes it back. */
    private static void succeeds(String name, ShotListPlanner planner, int due, Checks.Call action,
            int dueBehind, Checks.Call behind) {
        String before = Boards.stateOf(planner);
        Checks.answers(name, due, action);
        Checks.answers("what it changes by " + name, dueBehind, behind);
        Checks.answers("undo() of " + name, 0, planner::undo);
        Checks.same("the board behind undo() of " + name, before, Boards.stateOf(planner));
    }

    private static void refuses(String name, ShotListPlanner planner, int due, Checks.Call action) {
        String before = Boards.stateOf(planner);
        Checks.answers(name, due, action);
        changesNothing(name, planner, before);
    }

    private static void throwsRange(String name, ShotListPlanner planner, Checks.Call action) {
        String before = Boards.stateOf(planner);
        Checks.fails(name, RANGE, action);
        changesNothing(name, planner, before);
    }

    private static void changesNothing(String name, ShotListPlanner planner, String before) {
        Checks.same("the board behind " + name, before, Boards.stateOf(planner));
        Checks.answers("undo() behind " + name, -2, planner::undo);
    }

    static void run() {
        limits();
        light();
        moveActor();
        moveCamera();
        cast();
        length();
        shift();
        drop();
        flip();
        join();
        mend();
    }

    private static void limits() {
        ShotListPlanner x = Boards.loaded(Boards.TWO_SCENES);
        succeeds("setLimits(4, 200, 500)", x, 6, () -> x.setLimits(4, 200, 500), 4,
                () -> x.count(2));
        succeeds("setLimits(99, 2000, 0)", x, 2, () -> x.setLimits(99, 2000, 0), 2000,
                () -> x.count(3));
        succeeds("setLimits(0, 0, 2000)", x, 6, () -> x.setLimits(0, 0, 2000), 2000,
                () -> x.count(4));
        throwsRange("setLimits(-1, 0, 0)", x, () -> x.setLimits(-1, 0, 0));
        throwsRange("setLimits(100, 0, 0)", x, () -> x.setLimits(100, 0, 0));
        throwsRange("setLimits(0, -1, 0)", x, () -> x.setLimits(0, -1, 0));
        throwsRange("setLimits(0, 2001, 0)", x, () -> x.setLimits(0, 2001, 0));
        throwsRange("setLimits(0, 0, -1)", x, () -> x.setLimits(0, 0, -1));
        throwsRange("setLimits(0, 0, 2001)", x, () -> x.setLimits(0, 0, 2001));
    }

    private static void light() {
        ShotListPlanner x = Boards.loaded(Boards.TWO_SCENES);
        succeeds("setLight(1, 0)", x, 3, () -> x.setLight(1, 0), 0, () -> x.scene(1, 0));
        succeeds("setLight(0, 3)", x, 1, () -> x.setLight(0, 3), 3, () -> x.scene(0, 0));
        succeeds("setLight(0, 3) and the cost of a change", x, 1, () -> x.setLight(0, 3), 13,
                () -> x.change(0, 3));
        throwsRange("setLight(-1, 0)", x, () -> x.setLight(-1, 0));
        throwsRange("setLight(2, 0)", x, () -> x.setLight(2, 0));
        throwsRange("setLight(0, -1)", x, () -> x.setLight(0, -1));
        throwsRange("setLight(0, 4)", x, () -> x.setLight(0, 4));
    }

    private static void moveActor() {
        ShotListPlanner x = Boards.loaded(Boards.TWO_SCENES);
        succeeds("moveActor(1, 2, 30, 11)", x, 5, () -> x.moveActor(1, 2, 30, 11), 5,
                () -> x.fault(2, 2));
        succeeds("moveActor(1, 2, 0, 199)", x, 5, () -> x.moveActor(1, 2, 0, 199), 199,
                () -> x.actor(1, 2, true));
        succeeds("moveActor(0, 3, 199, 0)", x, 3, () -> x.moveActor(0, 3, 199, 0), 199,
                () -> x.actor(0, 3, false));
        refuses("moveActor(0, 0, 75, 10)", x, -2, () -> x.moveActor(0, 0, 75, 10));
        refuses("moveActor(0, 0, 80, 10)", x, -2, () -> x.moveActor(0, 0, 80, 10));
        refuses("moveActor(1, 2, 5, 40)", x, -2, () -> x.moveActor(1, 2, 5, 40));
        succeeds("moveActor(0, 1, 75, 10), a partner", x, 1, () -> x.moveActor(0, 1, 75, 10), 75,
                () -> x.actor(0, 1, false));
        succeeds("moveActor(0, 0, 40, 10), on another scene's camera", x, 3,
                () -> x.moveActor(0, 0, 40, 10), 10, () -> x.actor(0, 0, true));
        succeeds("moveActor(0, 0, 50, 50), to the same place", x, 3,
                () -> x.moveActor(0, 0, 50, 50), 50, () -> x.actor(0, 0, true));
        throwsRange("moveActor(2, 0, 0, 0)", x, () -> x.moveActor(2, 0, 0, 0));
        throwsRange("moveActor(-1, 0, 0, 0)", x, () -> x.moveActor(-1, 0, 0, 0));
        throwsRange("moveActor(0, 2, 0, 0)", x, () -> x.moveActor(0, 2, 0, 0));
        throwsRange("moveActor(0, -1, 0, 0)", x, () -> x.moveActor(0, -1, 0, 0));
        throwsRange("moveActor(0, 6, 0, 0)", x, () -> x.moveActor(0, 6, 0, 0));
        throwsRange("moveActor(0, 0, -1, 0)", x, () -> x.moveActor(0, 0, -1, 0));
        throwsRange("moveActor(0, 0, 200, 0)", x, () -> x.moveActor(0, 0, 200, 0));
        throwsRange("moveActor(0, 0, 0, -1)", x, () -> x.moveActor(0, 0, 0, -1));
        throwsRange("moveActor(0, 0, 0, 200)", x, () -> x.moveActor(0, 0, 0, 200));
    }

    private static void moveCamera() {
        ShotListPlanner x = Boards.loaded(Boards.TWO_SCENES);
        succeeds("moveCamera(1, 75, 15)", x, 1, () -> x.moveCamera(1, 75, 15), 15,
                () -> x.shot(1, 2));
        succeeds("moveCamera(4, 10, 11)", x, 2, () -> x.moveCamera(4, 10, 11), 10,
                () -> x.shot(4, 1));
        succeeds("moveCamera(0, 199, 0)", x, 3, () -> x.moveCamera(0, 199, 0), 199,
                () -> x.shot(0, 1));
        succeeds("moveCamera(0, 100, 50), on the partner", x, 1, () -> x.moveCamera(0, 100, 50),
                100, () -> x.shot(0, 1));
        refuses("moveCamera(0, 50, 50)", x, -2, () -> x.moveCamera(0, 50, 50));
        throwsRange("moveCamera(-1, 0, 0)", x, () -> x.moveCamera(-1, 0, 0));
        throwsRange("moveCamera(6, 0, 0)", x, () -> x.moveCamera(6, 0, 0));
        throwsRange("moveCamera(0, -1, 0)", x, () -> x.moveCamera(0, -1, 0));
        throwsRange("moveCamera(0, 200, 0)", x, () -> x.moveCamera(0, 200, 0));
        throwsRange("moveCamera(0, 0, -1)", x, () -> x.moveCamera(0, 0, -1));
        throwsRange("moveCamera(0, 0, 200)", x, () -> x.moveCamera(0, 0, 200));
    }

    private static void cast() {
        ShotListPlanner x = Boards.loaded(Boards.TWO_SCENES);
        succeeds("setCast(1, 3, 1)", x, 1, () -> x.setCast(1, 3, 1), 3, () -> x.shot(1, 3));
        succeeds("setCast(1, 1, -1)", x, 1, () -> x.setCast(1, 1, -1), -1, () -> x.shot(1, 4));
        succeeds("setCast(2, 1, 0)", x, 4, () -> x.setCast(2, 1, 0), 2, () -> x.fault(2, 0));
        succeeds("setCast(1, 0, 1)", x, 2, () -> x.setCast(1, 0, 1), 1, () -> x.faultsOf(1));
        refuses("setCast(0, 0, 0)", x, -2, () -> x.setCast(0, 0, 0));
        ShotListPlanner y = Boards.loaded(JOINS);
        refuses("setCast(2, 1, 0)", y, -3, () -> y.setCast(2, 1, 0));
        refuses("setCast(2, 1, 1), wrong twice", y, -2, () -> y.setCast(2, 1, 1));
        succeeds("setCast(2, 0, 1), the partner at the camera", y, 0, () -> y.setCast(2, 0, 1), 1,
                () -> y.shot(2, 4));
        throwsRange("setCast(-1, 0, 1)", x, () -> x.setCast(-1, 0, 1));
        throwsRange("setCast(6, 0, 1)", x, () -> x.setCast(6, 0, 1));
        throwsRange("setCast(0, 2, 1)", x, () -> x.setCast(0, 2, 1));
        throwsRange("setCast(0, -1, 1)", x, () -> x.setCast(0, -1, 1));
        throwsRange("setCast(0, 6, 1)", x, () -> x.setCast(0, 6, 1));
        throwsRange("setCast(0, 0, 2)", x, () -> x.setCast(0, 0, 2));
        throwsRange("setCast(0, 0, -2)", x, () -> x.setCast(0, 0, -2));
        throwsRange("setCast(0, 0, 6)", x, () -> x.setCast(0, 0, 6));
        throwsRange("setCast(0, -1, -1)", x, () -> x.setCast(0, -1, -1));
        throwsRange("setCast(0, 2, 2), both not in the scene", x, () -> x.setCast(0, 2, 2));
    }

    private static void length() {
        ShotListPlanner x = Boards.loaded(Boards.TWO_SCENES);
        succeeds("setLength(0, 99)", x, 5, () -> x.setLength(0, 99), 133, () -> x.count(5));
        succeeds("setLength(5, 1)", x, 9, () -> x.setLength(5, 1), 1, () -> x.setup(4, 3));
        throwsRange("setLength(-1, 1)", x, () -> x.setLength(-1, 1));
        throwsRange("setLength(6, 1)", x, () -> x.setLength(6, 1));
        throwsRange("setLength(0, 0)", x, () -> x.setLength(0, 0));
        throwsRange("setLength(0, 100)", x, () -> x.setLength(0, 100));
    }

    /** The lengths tell the shots apart. */
    private static int lengths(ShotListPlanner planner) {
        int lengths = 0;
        for (int shot = 0; shot < planner.count(1); shot++) {
            lengths = lengths * 10 + planner.shot(shot, 5);
        }
        return lengths;
    }

    private static void shift() {
        ShotListPlanner x = Boards.loaded(Boards.TWO_SCENES);
        succeeds("shift(0, 3)", x, 1, () -> x.shift(0, 3), 647589, () -> lengths(x));
        succeeds("shift(3, 0)", x, 3, () -> x.shift(3, 0), 756489, () -> lengths(x));
        succeeds("shift(2, 1)", x, 3, () -> x.shift(2, 1), 546789, () -> lengths(x));
        succeeds("shift(5, 4)", x, 3, () -> x.shift(5, 4), 564798, () -> lengths(x));
        succeeds("shift(2, 2)", x, 3, () -> x.shift(2, 2), 564789, () -> lengths(x));
        refuses("shift(3, 4)", x, -2, () -> x.shift(3, 4));
        refuses("shift(5, 0)", x, -2, () -> x.shift(5, 0));
        throwsRange("shift(-1, 0)", x, () -> x.shift(-1, 0));
        throwsRange("shift(6, 0)", x, () -> x.shift(6, 0));
        throwsRange("shift(0, -1)", x, () -> x.shift(0, -1));
        throwsRange("shift(0, 6)", x, () -> x.shift(0, 6));
    }

    private static void drop() {
        ShotListPlanner x = Boards.loaded(Boards.TWO_SCENES);
        succeeds("drop(0)", x, 5, () -> x.drop(0), 64789, () -> lengths(x));
        succeeds("drop(3)", x, 5, () -> x.drop(3), 56489, () -> lengths(x));
        succeeds("drop(5)", x, 5, () -> x.drop(5), 56478, () -> lengths(x));
        succeeds("drop(1) and the faults", x, 5, () -> x.drop(1), 2, x::faults);
        throwsRange("drop(-1)", x, () -> x.drop(-1));
        throwsRange("drop(6)", x, () -> x.drop(6));
        for (int left = 5; left >= 0; left--) {
            Checks.answers("drop(0) down to " + left, left, () -> x.drop(0));
        }
        Checks.fails("drop(0) without shots", RANGE, () -> x.drop(0));
        Checks.answers("count(0) without shots", 2, () -> x.count(0));
    }

    private static void flip() {
        ShotListPlanner x = Boards.loaded("limits 0 0 0; scene 0; actor 0 0 100; actor 1 10 100;"
                + "shot 5 1 0 1 5; shot 5 0 0 1 5; shot 10 90 0 1 5; shot 11 90 0 1 5;"
                + "shot 10 100 0 1 5; shot 5 5 1 none 5;"
                + "scene 0; actor 0 190 0; actor 1 199 9; shot 190 9 1 0 5; shot 189 8 1 0 5;"
                + "shot 195 10 1 0 5; shot 191 1 1 0 5;");
        Checks.answers("faults() before flip()", 0, x::faults);
        succeeds("flip(0) up to 199", x, 1, () -> x.flip(0), 199, () -> x.shot(0, 2));
        refuses("flip(1) to 200", x, -3, () -> x.flip(1));
        succeeds("flip(2) down to 0", x, x.faultsWith(2, 0, 110), () -> x.flip(2), 0,
                () -> x.shot(2, 1));
        refuses("flip(3) to -1", x, -3, () -> x.flip(3));
        refuses("flip(4) to the subject", x, -4, () -> x.flip(4));
        refuses("flip(5) without a partner", x, -2, () -> x.flip(5));
        succeeds("flip(6)", x, x.faultsWith(6, 199, 0), () -> x.flip(6), 0, () -> x.shot(6, 2));
        refuses("flip(7) to x 200", x, -3, () -> x.flip(7));
        refuses("flip(8) to y -1", x, -3, () -> x.flip(8));
        succeeds("flip(9)", x, x.faultsWith(9, 198, 8), () -> x.flip(9), 198, () -> x.shot(9, 1));
        throwsRange("flip(-1)", x, () -> x.flip(-1));
        throwsRange("flip(10)", x, () -> x.flip(10));
        ShotListPlanner y = Boards.loaded(Boards.PAIR);
        succeeds("flip(1) of a pair", y, 0, () -> y.flip(1), 10, () -> y.shot(1, 2));
    }

    private static void join() {
        ShotListPlanner x = Boards.loaded(JOINS);
        refuses("join(0, 4)", x, -2, () -> x.join(0, 4));
        refuses("join(4, 0)", x, -2, () -> x.join(4, 0));
        refuses("join(3, 2)", x, -3, () -> x.join(3, 2));
        refuses("join(1, 0)", x, -4, () -> x.join(1, 0));
        succeeds("join(1, 1), its own", x, 0, () -> x.join(1, 1), 75, () -> x.shot(1, 1));
        succeeds("join(3, 0)", x, 0, () -> x.join(3, 0), 10, () -> x.shot(3, 2));
        throwsRange("join(-1, 0)", x, () -> x.join(-1, 0));
        throwsRange("join(5, 0)", x, () -> x.join(5, 0));
        throwsRange("join(0, -1)", x, () -> x.join(0, -1));
        throwsRange("join(0, 5)", x, () -> x.join(0, 5));
        ShotListPlanner y = Boards.loaded(Boards.TWO_SCENES);
        succeeds("join(2, 0), moved within its own", y, 3, () -> y.join(2, 0), 75,
                () -> y.shot(2, 1));
        succeeds("join(0, 1), with fewer faults", y, 1, () -> y.join(0, 1), 90,
                () -> y.shot(0, 2));
    }

    private static void mend() {
        String pair = "actor 0 50 50; actor 1 100 50;";
        ShotListPlanner x = Boards.loaded("limits 0 0 500; scene 0;" + pair
                + "shot 60 10 0 1 5; shot 71 90 0 1 5; shot 80 10 0 1 5; scene 0;" + pair
                + "shot 60 90 1 0 5; shot 70 10 1 0 5;");
        Checks.answers("faults() before mend()", 3, x::faults);
        succeeds("mend()", x, 2, x::mend, 0, x::faults);
        succeeds("mend() and the shot that it flips first", x, 2, x::mend, 10, () -> x.shot(1, 2));
        succeeds("mend() and the lowest of two shots", x, 2, x::mend, 10, () -> x.shot(3, 2));
        x.mend();
        Checks.answers("shot(0, 2) behind mend()", 10, () -> x.shot(0, 2));
        Checks.answers("shot(4, 2) behind mend()", 10, () -> x.shot(4, 2));
        Checks.answers("mend() behind mend()", -2, x::mend);
        Checks.answers("undo() behind it", 0, x::undo);
        ShotListPlanner first = Boards.loaded(Boards.PAIR);
        succeeds("mend() with the first shot", first, 1, first::mend, 90, () -> first.shot(0, 2));
        ShotListPlanner y = Boards.loaded(Boards.NO_SHOTS);
        refuses("mend() without shots", y, -2, y::mend);
        ShotListPlanner z = Boards.loaded("limits 0 0 0; scene 0; actor 0 0 0; actor 1 0 10;"
                + "actor 2 5 0; shot 10 0 0 1 5;");
        Checks.answers("faults() of what no flip mends", 1, z::faults);
        refuses("mend() with a flip off the stage", z, -2, z::mend);
    }
}
