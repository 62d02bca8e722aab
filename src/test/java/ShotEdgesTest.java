/** The boundary cases of the document's "Description" 2, SHOTS: a test for each sentence. */
final class ShotEdgesTest {
    /** The camera of shots 0 and 1 is at the place of actor 1. */
    static final String MEET = "limits 10 200 500; scene 0; actor 0 50 50; actor 1 100 50;"
            + "shot 100 50 0 1 5; shot 100 50 0 none 5; shot 75 90 1 0 5;";
    private static final String PAIR = "limits 0 0 0; scene 0; actor 0 50 50; actor 1 100 50;";

    private ShotEdgesTest() {
    }

    static void run() {
        numberOfShots();
        orderOfShots();
        partners();
        lengths();
        cameraAndSubject();
        cameraBesideSubject();
        views();
        visibleAtTheField();
        visibleAcrossZero();
        visibleAtTheCamera();
        sideAboveAndBelow();
        sideByNumbers();
        lookLeftAndRight();
        withoutPartner();
        subjectAndPartnerAtOnePlace();
        nearInOneScene();
        nearAtTheReach();
        nearAtTheTurn();
    }

    static String shots(int number) {
        return "limits 0 0 0; scene 0; actor 0 1 1;" + "shot 2 2 0 none 3;".repeat(number);
    }

    /** "There are 0 to 12 shots". */
    private static void numberOfShots() {
        for (int number = 0; number <= 12; number++) {
            TextTest.right(number, shots(number));
            String behind = "(" + number;
            Lived.leaves(shots(number), Calls.RANGE, "shot" + behind + ", 0)", "shot(-1, 0)",
                    "drop" + behind + ")", "view" + behind + ")", "shift(0, " + number + ")",
                    "setLength" + behind + ", 1)");
        }
        TextTest.wrong(4, shots(12) + "^shot 2 2 0 none 3;");
        ShotListPlanner x = Boards.loaded(shots(12));
        Calls.rows("of twelve shots", x, "shot(11, 5)", "3", "shot(12, 5)", Calls.RANGE,
                "drop(11)", "11", "shot(10, 5)", "3", "shot(11, 5)", Calls.RANGE, "drop(0)", "10");
        for (int left = 9; left >= 0; left--) {
            Calls.rows("down to no shot", x, "drop(0)", String.valueOf(left), "count(1)",
                    String.valueOf(left));
        }
        Calls.rows("of no shot", x, "drop(0)", Calls.RANGE, "shot(0, 0)", Calls.RANGE);
    }

    /** "numbered from 0 in the order of the board: first those of scene 0, then ... scene 1". */
    private static void orderOfShots() {
        String actor = "scene 0; actor 0 1 1;";
        ShotListPlanner x = Boards.loaded("limits 0 0 0;" + actor + "shot 2 2 0 none 1;"
                + "shot 2 2 0 none 2;" + actor + actor + "shot 2 2 0 none 3; shot 2 2 0 none 4;");
        Calls.rows("of three scenes", x, "shot(0, 0)", "0", "shot(1, 0)", "0", "shot(2, 0)", "2",
                "shot(3, 0)", "2", "scene(0, 2)", "2", "scene(1, 2)", "0", "scene(2, 2)", "2",
                "drop(1)", "3", "shot(1, 0)", "2", "shot(1, 5)", "3", "scene(0, 2)", "1",
                "shift(2, 1)", "1", "shot(1, 5)", "4", "shot(2, 5)", "3", "drop(0)", "2",
                "scene(0, 2)", "0", "shot(0, 0)", "2");
    }

    /** "a partner (another actor of its scene, or NONE)". */
    private static void partners() {
        ShotListPlanner x = Boards.loaded(Boards.TWO_SCENES);
        Calls.rows("without and with a partner", x, "shot(2, 4)", "-1", "shot(0, 4)", "1",
                "shot(1, 4)", "0", "setCast(0, 0, -1)", "1", "shot(0, 4)", "-1",
                "setCast(0, 0, 3)", "1", "shot(0, 4)", "3");
        Lived.leaves(Boards.TWO_SCENES, Calls.RANGE, "setCast(0, 0, -2)", "setCast(0, 0, 2)",
                "setCast(0, 0, 6)", "setCast(0, 2, -1)", "setCast(0, -1, 0)", "setCast(4, 0, 1)",
                "setCast(4, 1, 0)");
        Lived.leaves(Boards.TWO_SCENES, "-2", "setCast(0, 0, 0)", "setCast(0, 1, 1)",
                "setCast(4, 5, 5)");
        TextTest.wrong(3, PAIR + "shot 9 9 0 ^0 5;");
        TextTest.wrong(2, PAIR + "shot 9 9 0 ^2 5;");
        TextTest.right(1, PAIR + "shot 9 9 0 none 5;");
        TextTest.right(1, PAIR + "shot 9 9 0 1 5;");
    }

    /** "and a length (1 to 99 seconds)". */
    private static void lengths() {
        TextTest.right(2, PAIR + "shot 9 9 0 1 1; shot 9 9 0 1 99;");
        TextTest.wrong(2, PAIR + "shot 9 9 0 1 ^0;");
        TextTest.wrong(2, PAIR + "shot 9 9 0 1 ^100;");
        ShotListPlanner x = Boards.loaded(Boards.PAIR);
        Calls.rows("of 5 seconds", x, "setLength(0, 1)", "5", "shot(0, 5)", "1",
                "setLength(0, 99)", "1", "shot(0, 5)", "99", "count(5)", "108");
        Lived.leaves(Boards.PAIR, Calls.RANGE, "setLength(0, 0)", "setLength(0, 100)",
                "setLength(0, least)", "setLength(0, most)");
    }

    /** "The camera is never at the place of the subject.", whatever call would lead there. */
    private static void cameraAndSubject() {
        TextTest.wrong(3, PAIR + "shot 50 50 ^0 1 5;");
        Lived.leaves(MEET, "-2", "moveCamera(0, 50, 50)", "moveActor(0, 0, 100, 50)",
                "moveActor(0, 1, 75, 90)", "faultsWith(0, 50, 50)");
        Lived.leaves(MEET, "-3", "setCast(0, 1, 0)", "setCast(1, 1, -1)", "join(2, 0)");
        Lived.leaves(MEET, "-4", "flip(0)");
    }

    /** The nearest places on each side are allowed, and so is the partner's own place. */
    private static void cameraBesideSubject() {
        Calls.rows("beside actor 2", Boards.loaded(StageEdgesTest.ALONE),
                "moveCamera(0, 99, 100)", "0", "moveCamera(0, 101, 100)", "0",
                "moveCamera(0, 100, 99)", "0", "moveCamera(0, 100, 101)", "0",
                "moveActor(0, 2, 101, 101)", "0", "moveActor(0, 2, 99, 101)", "0");
        Calls.rows("on the partner", Boards.loaded(PAIR + "shot 9 9 0 1 5;"),
                "moveCamera(0, 100, 50)", "0", "faultsWith(0, 100, 50)", "0",
                "moveActor(0, 1, 9, 9)", "0", "moveCamera(0, 9, 9)", "0");
        TextTest.right(1, PAIR + "shot 100 50 0 1 5;");
        TextTest.right(1, PAIR + "shot 100 50 0 none 5;");
        TextTest.right(1, PAIR + "shot 50 51 0 1 5;");
        TextTest.right(1, PAIR + "shot 51 50 0 1 5;");
    }

    /** "the direction number of the vector from the camera to the subject". */
    private static void views() {
        ShotListPlanner x = Boards.loaded("limits 0 0 0; scene 0; actor 0 199 199; actor 1 0 0;"
                + "shot 0 0 0 1 1; shot 199 199 1 0 1; shot 198 199 0 1 1; shot 1 0 1 0 1;");
        Calls.rows("from camera to subject", x, "view(0)", "500", "view(1)", "2500", "view(2)",
                "0", "view(3)", "2000");
    }

    /** "at most the field F": the view is 0, the actors are at turns of 500, 1000 and 2000. */
    private static void visibleAtTheField() {
        ShotListPlanner x = Boards.loaded("limits 0 0 0; scene 0; actor 0 199 100;"
                + "actor 1 199 199; actor 2 199 1; actor 3 100 100; actor 4 1 100; actor 5 100 199;"
                + "shot 100 100 0 none 1; scene 0; actor 4 199 100;");
        String[][] due = {{"0", "1"}, {"1", "1"}, {"499", "1"}, {"500", "7"}, {"501", "7"},
            {"999", "7"}, {"1000", "39"}, {"1001", "39"}, {"1999", "39"}, {"2000", "55"}};
        for (String[] row : due) {
            Calls.rows("with F " + row[0], x, "setLimits(0, 0, " + row[0] + ")", "1", "visible(0)",
                    row[1]);
        }
        Lived.leaves(Boards.PAIR, Calls.RANGE, "setLimits(0, 0, -1)", "setLimits(0, 0, 2001)");
    }

    /** The same sentence where view and actor are on both sides of 0. */
    private static void visibleAcrossZero() {
        ShotListPlanner x = Boards.loaded("limits 0 0 10; scene 0; actor 0 199 101;"
                + "actor 1 199 99; shot 0 100 0 1 1; shot 0 100 1 0 1;");
        Calls.rows("across 0", x, "view(0)", "5", "view(1)", "3995", "visible(0)", "3",
                "visible(1)", "3", "setLimits(0, 0, 9)", "2", "visible(0)", "1", "visible(1)", "2");
    }

    /** "visible if the actor is not at the camera place": also the partner, with any F. */
    private static void visibleAtTheCamera() {
        ShotListPlanner x = Boards.loaded("limits 0 0 2000; scene 0; actor 0 50 50;"
                + "actor 1 100 50; actor 2 100 50; shot 100 50 0 1 1;");
        Calls.rows("with actors at the camera", x, "visible(0)", "1", "moveActor(0, 1, 101, 50)",
                "0", "visible(0)", "3", "moveActor(0, 2, 100, 51)", "0", "visible(0)", "7",
                "moveActor(0, 1, 50, 50)", "0", "visible(0)", "7");
    }

    /** "1 if the cross product ... is above 0, -1 if it is below 0, and 0 if it is 0". */
    private static void sideAboveAndBelow() {
        ShotListPlanner x = Boards.loaded("limits 0 0 0; scene 0; actor 0 10 10; actor 1 11 10;"
                + "shot 10 11 0 1 1;");
        Calls.rows("one beside the axis", x, "side(0)", "1", "moveCamera(0, 10, 9)", "0", "side(0)",
                "-1", "moveCamera(0, 9, 10)", "0", "side(0)", "0", "moveCamera(0, 11, 10)", "0",
                "side(0)", "0", "moveCamera(0, 199, 10)", "1", "side(0)", "0",
                "moveCamera(0, 199, 11)", "0", "side(0)", "1", "moveCamera(0, 0, 9)", "0",
                "side(0)", "-1");
        Calls.rows("across the whole stage", Boards.loaded("limits 0 0 0; scene 0; actor 0 0 0;"
                + "actor 1 199 199; shot 0 199 0 1 1; shot 199 0 0 1 1;"), "side(0)", "1",
                "side(1)", "-1");
    }

    /** "let L be the one of subject and partner with the lower number, and H the other one." */
    private static void sideByNumbers() {
        ShotListPlanner x = Boards.loaded(PAIR + "shot 75 90 0 1 5; shot 75 90 1 0 5;"
                + "scene 0; actor 4 50 50; actor 2 100 50; shot 75 90 4 2 5; shot 75 90 2 4 5;");
        Calls.rows("by the actors' numbers", x, "side(0)", "1", "side(1)", "1", "side(2)", "-1",
                "side(3)", "-1");
    }

    /** "The look of a shot with a partner is 1 (left) if ... above 0, -1 (right) ... below 0". */
    private static void lookLeftAndRight() {
        ShotListPlanner x = Boards.loaded(PAIR + "shot 50 51 0 1 5; shot 50 51 1 0 5;");
        Calls.rows("above the axis", x, "look(0)", "1", "look(1)", "-1");
        Calls.rows("on the axis", x, "moveCamera(0, 49, 50)", "0", "look(0)", "0",
                "moveCamera(1, 101, 50)", "0", "look(1)", "0");
        Calls.rows("below the axis", x, "moveCamera(0, 50, 49)", "0", "look(0)", "-1",
                "moveCamera(1, 50, 49)", "0", "look(1)", "1");
        Calls.rows("with a cross product of 1", Boards.loaded("limits 0 0 0; scene 0;"
                + "actor 0 10 10; actor 1 10 11; shot 9 10 0 1 1; shot 11 10 0 1 1;"), "look(0)",
                "1", "look(1)", "-1");
    }

    /** "The side of a shot without a partner is 0.", and so is its look. */
    private static void withoutPartner() {
        ShotListPlanner x = Boards.loaded(PAIR + "shot 75 90 0 none 5; shot 75 10 1 none 5;");
        Calls.rows("without a partner", x, "side(0)", "0", "look(0)", "0", "side(1)", "0",
                "look(1)", "0", "eyeline(0)", "-2", "setCast(0, 0, 1)", "0", "side(0)", "1",
                "look(0)", "1", "setCast(0, 0, -1)", "0", "side(0)", "0", "look(0)", "0");
    }

    /** "If subject and partner are at the same place, side and look are 0." */
    private static void subjectAndPartnerAtOnePlace() {
        ShotListPlanner x = Boards.loaded("limits 0 0 0; scene 0; actor 0 50 50; actor 1 50 50;"
                + "shot 75 90 0 1 5; shot 10 20 1 0 5;");
        Calls.rows("at one place", x, "side(0)", "0", "look(0)", "0", "side(1)", "0", "look(1)",
                "0", "eyeline(0)", "-3", "eyeline(1)", "-3", "visible(0)", "3", "faults()", "0",
                "moveActor(0, 1, 51, 50)", "2", "side(0)", "1", "look(0)", "1", "side(1)", "-1",
                "look(1)", "1");
    }

    /** "Two shots are near if they belong to the same scene". */
    private static void nearInOneScene() {
        String scene = "scene 0; actor 0 50 50; shot 75 90 0 none 5;";
        ShotListPlanner x = Boards.loaded("limits 99 2000 0;" + scene + "shot 75 90 0 none 5;"
                + scene);
        Calls.rows("of two scenes", x, "isNear(0, 1)", "true", "isNear(1, 2)", "false",
                "isNear(2, 1)", "false", "isNear(2, 2)", "true", "setups()", "2");
    }

    /** "the distance of their cameras is at most the reach R": 0, just R, and one more. */
    private static void nearAtTheReach() {
        ShotListPlanner x = Boards.loaded("limits 0 2000 0; scene 0; actor 0 100 190;"
                + "shot 100 10 0 none 1; shot 100 10 0 none 1; shot 101 10 0 none 1;"
                + "shot 150 59 0 none 1; shot 150 60 0 none 1;");
        Calls.rows("with R 0", x, "isNear(0, 0)", "true", "isNear(0, 1)", "true", "isNear(0, 2)",
                "false", "setLimits(1, 2000, 0)", "2", "isNear(0, 2)", "true",
                "setLimits(98, 2000, 0)", "2", "isNear(0, 3)", "false", "setLimits(99, 2000, 0)",
                "2", "isNear(0, 3)", "true", "isNear(3, 0)", "true", "isNear(0, 4)", "false",
                "isNear(4, 0)", "false");
        Lived.leaves(Boards.PAIR, Calls.RANGE, "setLimits(-1, 0, 0)", "setLimits(100, 0, 0)");
    }

    /** "and the turn between their views is at most T": 0, just T, one more, and 2000. */
    private static void nearAtTheTurn() {
        ShotListPlanner x = Boards.loaded("limits 99 0 0; scene 0; actor 0 100 100;"
                + "shot 50 100 0 none 1; shot 60 100 0 none 1; shot 50 99 0 none 1;"
                + "shot 101 100 0 none 1;");
        Calls.rows("with T", x, "view(2)", "19", "isNear(0, 1)", "true", "isNear(0, 2)", "false",
                "setLimits(99, 18, 0)", "3", "isNear(0, 2)", "false", "setLimits(99, 19, 0)", "2",
                "isNear(0, 2)", "true", "isNear(2, 0)", "true", "setLimits(99, 1999, 0)", "2",
                "isNear(0, 3)", "false", "setLimits(99, 2000, 0)", "1", "isNear(0, 3)", "true");
        Lived.leaves(Boards.PAIR, Calls.RANGE, "setLimits(0, -1, 0)", "setLimits(0, 2001, 0)");
    }
}
