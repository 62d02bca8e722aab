/** The boundary cases of the document's "Description" 3, FAULTS: a test for each sentence. */
final class FaultEdgesTest {
    private static final String CAST = "scene 0; actor 0 50 50; actor 1 100 50; actor 2 75 99;";
    private static final String NEAR = "limits 10 2000 0;" + CAST;
    private static final String APART = "limits 0 0 0;" + CAST;
    /** Faults of all kinds, several of them of one shot. */
    private static final String MANY = "limits 10 2000 0; scene 0; actor 0 50 50; actor 1 100 50;"
            + "actor 2 60 49; actor 3 60 51; shot 70 48 0 1 5; shot 70 52 0 1 5;"
            + "shot 70 48 0 1 5; shot 70 52 1 0 5;";

    private FaultEdgesTest() {
    }

    static void run() {
        noShotBefore();
        shotBeforeInAnotherScene();
        axisOfSides();
        axisOfPairs();
        eyelineOfLooks();
        eyelineOfPairs();
        jumpAtTheLimits();
        jumpOfSubjects();
        blockedBetween();
        blockedByTheFirstActor();
        blockedByActorsOfTheScene();
        atMostOneOfEachKind();
        orderOfFaults();
        faultsOfTwelveShots();
    }

    /** "the shot before" of shot 0 does not exist, whatever shot 0 is. */
    private static void noShotBefore() {
        ShotListPlanner x = Boards.loaded(NEAR + "shot 70 49 0 1 5; shot 70 51 0 1 5;"
                + "shot 70 49 1 0 5;");
        Calls.rows("of three shots", x, "faultsOf(0)", "0", "faultsOf(1)", "5", "faultsOf(2)", "3",
                "drop(0)", "2", "faultsOf(0)", "0", "faultsOf(1)", "3", "drop(0)", "1",
                "faultsOf(0)", "0", "faults()", "0", "undo()", "1", "shift(1, 0)", "2",
                "faultsOf(0)", "0", "faultsOf(1)", "3");
    }

    /** "if it belongs to the same scene": the same places in two scenes are no fault. */
    private static void shotBeforeInAnotherScene() {
        ShotListPlanner x = Boards.loaded(NEAR + "shot 70 49 0 1 5;" + CAST + "shot 70 51 0 1 5;"
                + "shot 70 49 1 0 5;" + CAST + "shot 70 51 0 1 5; shot 70 51 0 1 5;");
        Calls.rows("of three scenes", x, "faultsOf(0)", "0", "faultsOf(1)", "0", "faultsOf(2)", "3",
                "faultsOf(3)", "0", "faultsOf(4)", "4", "faults()", "3", "drop(1)", "4",
                "faultsOf(1)", "0", "faults()", "1", "drop(3)", "3", "faults()", "0");
    }

    /** "and one side is 1, the other one -1": a side of 0 makes no fault. */
    private static void axisOfSides() {
        ShotListPlanner x = Boards.loaded(APART + "shot 71 49 0 1 5; shot 70 51 0 1 5;");
        Calls.rows("of two sides", x, "faultsOf(1)", "1", "moveCamera(1, 70, 50)", "0",
                "moveCamera(1, 70, 49)", "0", "moveCamera(0, 71, 51)", "1", "faultsOf(1)", "1",
                "moveCamera(0, 71, 50)", "0", "moveCamera(1, 70, 51)", "0", "moveCamera(0, 71, 51)",
                "0", "moveCamera(0, 71, 49)", "1");
    }

    /** "both ... have partners, subject and partner are the same two actors (in any order)". */
    private static void axisOfPairs() {
        ShotListPlanner x = Boards.loaded(APART + "shot 71 49 0 1 5; shot 70 51 0 1 5;");
        Calls.rows("of two pairs", x, "setCast(1, 1, 0)", "2", "faultsOf(1)", "3",
                "setCast(1, 0, -1)", "0", "setCast(1, 0, 2)", "0", "setCast(1, 2, 1)", "0",
                "setCast(1, 1, 2)", "0", "setCast(1, 0, 1)", "1", "setCast(0, 0, -1)", "0",
                "setCast(1, 0, -1)", "0", "setCast(0, 1, 0)", "0", "setCast(1, 1, 0)", "1",
                "faultsOf(1)", "1");
    }

    /** "and both looks are 1, or both are -1": not 0 and 0, and not one of each. */
    private static void eyelineOfLooks() {
        ShotListPlanner x = Boards.loaded(APART + "shot 70 51 0 1 5; shot 80 49 1 0 5;");
        Calls.rows("of two looks", x, "look(0)", "1", "look(1)", "1", "faultsOf(1)", "3",
                "moveCamera(1, 80, 50)", "0", "look(1)", "0", "moveCamera(1, 80, 51)", "0",
                "look(1)", "-1", "moveCamera(0, 70, 50)", "0", "look(0)", "0",
                "moveCamera(1, 80, 50)", "0", "look(1)", "0", "moveCamera(0, 70, 49)", "0",
                "moveCamera(1, 80, 51)", "2", "look(0)", "-1", "faultsOf(1)", "3");
    }

    /** "the subject of each one is the partner of the other one". */
    private static void eyelineOfPairs() {
        ShotListPlanner x = Boards.loaded(APART + "shot 70 51 0 1 5; shot 80 49 1 0 5;");
        Calls.rows("of two pairs", x, "setCast(1, 0, 1)", "1", "faultsOf(1)", "1",
                "setCast(1, 1, -1)", "0", "setCast(1, 1, 2)", "0", "setCast(1, 2, 0)", "0",
                "setCast(1, 1, 0)", "2", "setCast(0, 0, -1)", "0", "setCast(0, 2, 1)", "0",
                "setCast(0, 0, 2)", "0", "setCast(0, 0, 1)", "2");
    }

    /** "and they are near": just R and one more, just T and one more. */
    private static void jumpAtTheLimits() {
        ShotListPlanner x = Boards.loaded("limits 0 0 0; scene 0; actor 0 100 100;"
                + "shot 50 100 0 none 1; shot 50 99 0 none 1;");
        Calls.rows("of turn 19", x, "faults()", "0", "setLimits(0, 2000, 0)", "2", "faults()", "0",
                "setLimits(1, 18, 0)", "2", "faults()", "0", "setLimits(1, 19, 0)", "1", "faults()",
                "1", "faultsOf(1)", "4", "setLimits(0, 0, 0)", "2", "moveCamera(1, 50, 100)", "1",
                "faultsOf(1)", "4");
    }

    /** "both have the same subject": partners do not matter. */
    private static void jumpOfSubjects() {
        ShotListPlanner x = Boards.loaded(NEAR + "shot 75 10 0 1 5; shot 75 10 0 2 5;");
        Calls.rows("of one camera place", x, "faultsOf(1)", "4", "setCast(1, 0, -1)", "1",
                "setCast(0, 0, -1)", "1", "setCast(1, 1, -1)", "0", "setCast(1, 1, 0)", "0",
                "setCast(0, 1, 2)", "1");
    }

    /** "between them, and at neither of their places": the line goes from (10, 10) to (40, 10). */
    private static void blockedBetween() {
        ShotListPlanner x = Boards.loaded("limits 0 0 0; scene 0; actor 0 40 10; actor 1 0 0;"
                + "shot 10 10 0 none 1;");
        int[][] places = {{11, 10, 1}, {39, 10, 1}, {25, 10, 1}, {10, 10, 0}, {40, 10, 0},
            {9, 10, 0}, {41, 10, 0}, {0, 10, 0}, {199, 10, 0}, {25, 9, 0}, {25, 11, 0},
            {10, 11, 0}, {40, 9, 0}};
        for (int[] place : places) {
            Calls.rows("on the line or beside it", x,
                    "moveActor(0, 1, " + place[0] + ", " + place[1] + ")", String.valueOf(place[2]),
                    "faultsOf(0)", String.valueOf(8 * place[2]));
        }
        Calls.rows("of a partner between", x, "moveActor(0, 1, 11, 10)", "1", "setCast(0, 0, 1)",
                "1", "fault(0, 2)", "1");
        Calls.rows("of neighbours", x, "moveCamera(0, 39, 10)", "0", "moveActor(0, 1, 39, 10)",
                "0", "moveActor(0, 1, 40, 10)", "0");
        Calls.rows("of two places that are two apart", x, "moveCamera(0, 38, 8)", "0",
                "moveActor(0, 1, 39, 9)", "1", "moveCamera(0, 38, 9)", "0");
    }

    /** "(The first such actor, by number, is told.)": not the nearest one. */
    private static void blockedByTheFirstActor() {
        ShotListPlanner x = Boards.loaded("limits 0 0 0; scene 0; actor 0 0 0; actor 3 50 10;"
                + "actor 1 30 10; actor 5 20 10; shot 10 10 3 5 1;");
        Calls.rows("of two actors", x, "fault(0, 2)", "1", "moveActor(0, 1, 15, 10)", "1",
                "fault(0, 2)", "1", "moveActor(0, 0, 49, 10)", "1", "fault(0, 2)", "0",
                "moveActor(0, 0, 50, 10)", "1", "fault(0, 2)", "1", "moveActor(0, 1, 10, 10)", "1",
                "fault(0, 2)", "5", "setCast(0, 5, 3)", "0", "setCast(0, 0, -1)", "1",
                "fault(0, 2)", "5");
    }

    /** "some actor of the scene": none of another scene, and none of the board before. */
    private static void blockedByActorsOfTheScene() {
        String scene = "scene 0; actor 0 40 10; shot 10 10 0 none 1;";
        String between = "scene 0; actor 0 40 10; actor 1 25 10; shot 10 10 0 none 1;";
        ShotListPlanner x = Boards.loaded("limits 0 0 2000;" + between + scene + between);
        Calls.rows("of three scenes", x, "faultsOf(0)", "8", "faultsOf(1)", "0", "faultsOf(2)", "8",
                "visible(0)", "3", "visible(1)", "1");
        Boards.put(x, "limits 0 0 2000;" + scene + between + scene);
        Calls.rows("of a second board", x, "load()", "3", "faultsOf(0)", "0", "faultsOf(1)", "8",
                "faultsOf(2)", "0", "visible(0)", "1", "visible(1)", "3", "visible(2)", "1",
                "actor(0, 1, true)", Calls.RANGE, "scene(0, 1)", "1");
    }

    /** "A shot has at most one fault of each kind." */
    private static void atMostOneOfEachKind() {
        ShotListPlanner x = Boards.loaded("limits 0 0 0; scene 0; actor 0 10 10; actor 1 20 10;"
                + "actor 2 30 10; actor 3 40 10; actor 4 50 10; actor 5 60 10;"
                + "shot 0 10 5 none 1;");
        Calls.rows("of five blockers", x, "faults()", "1", "faultsOf(0)", "8", "fault(0, 2)", "0",
                "fault(1, 0)", Calls.NO_SUCH);
    }

    /** "The faults are ordered by shots, for the same shot by kinds." */
    private static void orderOfFaults() {
        ShotListPlanner x = Boards.loaded(MANY);
        int[][] due = {{0, 3, 2}, {1, 0, 0}, {1, 2, 0}, {1, 3, 3}, {2, 0, 1}, {2, 2, 1}, {2, 3, 2},
            {3, 0, 2}, {3, 1, 2}};
        Calls.rows("of all kinds", x, "faults()", "9", "faultsOf(0)", "8", "faultsOf(1)", "13",
                "faultsOf(2)", "13", "faultsOf(3)", "3");
        for (int i = 0; i < 27; i++) {
            Calls.rows("of all kinds", x, "fault(" + i / 3 + ", " + i % 3 + ")",
                    String.valueOf(due[i / 3][i % 3]));
        }
        Lived.leaves(MANY, Calls.NO_SUCH, "fault(9, 0)", "fault(9, 2)", "fault(most, 0)");
        Lived.leaves(MANY, Calls.RANGE, "fault(-1, 0)", "fault(least, 0)", "fault(0, -1)",
                "fault(0, 3)", "fault(9, 3)", "fault(9, -1)", "fault(-1, 3)");
    }

    /** The last fault of the last of twelve shots, and none behind it. */
    private static void faultsOfTwelveShots() {
        String text = ShotEdgesTest.shots(12);
        Calls.rows("of twelve shots", Boards.loaded(text), "faults()", "11", "fault(10, 0)", "11",
                "fault(10, 1)", "2", "fault(10, 2)", "10", "faultsOf(11)", "4");
        Lived.leaves(text, Calls.NO_SUCH, "fault(11, 0)", "fault(12, 1)", "fault(48, 2)");
        Lived.leaves(text, Calls.RANGE, "faultsOf(12)", "fault(11, 3)");
        Lived.leaves(text, "-2", "mend()");
        StringBuilder crossing = new StringBuilder(APART);
        for (int shot = 0; shot < 12; shot++) {
            crossing.append("shot ").append(61 + shot).append(shot == 11 ? " 60" : " 40")
                    .append(" 0 1 1;");
        }
        Calls.rows("of the last of twelve shots", Boards.loaded(crossing.toString()), "faults()",
                "1", "faultsOf(11)", "1", "mend()", "1", "shot(11, 1)", "78", "shot(11, 2)", "40",
                "faults()", "0", "mend()", "-2", "undo()", "0", "shot(11, 2)", "60");
    }
}
