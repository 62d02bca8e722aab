/** The boundary cases of the document's "Description" 1, STAGE: a test for each sentence. */
final class StageEdgesTest {
    /** One actor and one shot: no call can make a fault. */
    static final String ALONE = "limits 0 0 0; scene 0; actor 2 100 100; shot 50 50 2 none 1;";
    private static final String ACTORS = "actor 0 1 1; actor 1 1 1; actor 2 1 1; actor 3 1 1;"
            + "actor 4 1 1; actor 5 1 1;";

    private StageEdgesTest() {
    }

    static void run() {
        placesOfTexts();
        placesOfActions();
        scenes();
        lights();
        actors();
        numbersOfActors();
        placesOfOneActor();
        distance();
        directionOnTheAxes();
        directionBesideTheAxes();
        divisionsTruncate();
        turnAcrossZero();
        turnOfHalfACircle();
        turnOfNearShots();
    }

    /** "Places are points (x, y) with x and y from 0 to 199". */
    private static void placesOfTexts() {
        ShotListPlanner x = Boards.loaded("limits 0 0 0; scene 0; actor 0 0 199; actor 1 199 0;"
                + "shot 0 0 0 1 1; shot 199 199 1 0 1;");
        Calls.rows("corners of the stage", x, "actor(0, 0, false)", "0", "actor(0, 0, true)", "199",
                "actor(0, 1, false)", "199", "actor(0, 1, true)", "0", "shot(0, 1)", "0",
                "shot(0, 2)", "0", "shot(1, 1)", "199", "shot(1, 2)", "199");
        String start = "limits 0 0 0; scene 0; actor ";
        TextTest.wrong(2, start + "0 ^200 0;");
        TextTest.wrong(2, start + "0 0 ^200;");
        TextTest.wrong(2, start + "0 0 0; shot ^200 1 0 none 1;");
        TextTest.wrong(2, start + "0 0 0; shot 1 ^200 0 none 1;");
    }

    /** The same sentence, for the methods that take a place. */
    private static void placesOfActions() {
        ShotListPlanner x = Boards.loaded(ALONE);
        Calls.rows("corners of the stage", x, "moveActor(0, 2, 0, 0)", "0",
                "moveActor(0, 2, 199, 0)", "0", "moveActor(0, 2, 0, 199)", "0",
                "moveActor(0, 2, 199, 199)", "0", "faultsWith(0, 0, 0)", "0",
                "faultsWith(0, 199, 0)", "0", "faultsWith(0, 0, 199)", "0", "moveCamera(0, 0, 0)",
                "0", "moveCamera(0, 199, 0)", "0", "moveCamera(0, 0, 199)", "0",
                "moveActor(0, 2, 100, 100)", "0", "faultsWith(0, 199, 199)", "0",
                "moveCamera(0, 199, 199)", "0");
        Lived.leaves(ALONE, Calls.RANGE, "moveActor(0, 2, -1, 0)", "moveActor(0, 2, 200, 0)",
                "moveActor(0, 2, 0, -1)", "moveActor(0, 2, 0, 200)", "moveActor(0, 2, least, 0)",
                "moveActor(0, 2, 0, most)", "moveCamera(0, -1, 0)", "moveCamera(0, 200, 0)",
                "moveCamera(0, 0, -1)", "moveCamera(0, 0, 200)", "moveCamera(0, most, 0)",
                "moveCamera(0, 0, least)", "faultsWith(0, -1, 0)", "faultsWith(0, 200, 0)",
                "faultsWith(0, 0, -1)", "faultsWith(0, 0, 200)", "faultsWith(0, least, 0)",
                "faultsWith(0, 0, most)");
    }

    /** "There are 1 to 3 scenes, numbered from 0 in the order of the text." */
    private static void scenes() {
        String[] scenes = {"scene 2; actor 0 1 1;", "scene 1; actor 3 1 1; actor 1 2 2;",
            "scene 3; actor 5 1 1;"};
        TextTest.wrong(1, "limits 0 0 0;^");
        String text = "limits 0 0 0;";
        for (int last = 0; last < 3; last++) {
            text += scenes[last];
            TextTest.right(0, text);
            Calls.rows("with the last scene " + last, Boards.loaded(text), "count(0)",
                    String.valueOf(last + 1), "scene(0, 0)", "2", "scene(0, 1)", "1",
                    "scene(1, 0)", last >= 1 ? "1" : Calls.RANGE,
                    "scene(1, 1)", last >= 1 ? "10" : Calls.RANGE,
                    "scene(2, 0)", last >= 2 ? "3" : Calls.RANGE,
                    "scene(2, 1)", last >= 2 ? "32" : Calls.RANGE);
            String behind = "(" + (last + 1) + ", ";
            Lived.leaves(text, Calls.RANGE, "scene" + behind + "0)", "actor" + behind + "0, true)",
                    "setLight" + behind + "0)", "moveActor" + behind + "0, 9, 9)",
                    "bestShot" + behind + "0)", "scene(-1, 0)", "actor(-1, 0, true)",
                    "setLight(-1, 0)", "moveActor(-1, 0, 9, 9)", "bestShot(-1, 0)",
                    "scene(most, 0)", "scene(least, 0)");
        }
        TextTest.wrong(4, text + "^scene 0; actor 0 1 1;");
    }

    /** "A scene has a light (0 to 3)". */
    private static void lights() {
        TextTest.right(0, "limits 0 0 0; scene 0; actor 0 1 1; scene 3; actor 0 1 1;");
        TextTest.wrong(2, "limits 0 0 0; scene ^4; actor 0 1 1;");
        Calls.rows("of light 0", Boards.loaded(ALONE), "setLight(0, 3)", "0", "scene(0, 0)", "3",
                "setLight(0, 0)", "3", "scene(0, 0)", "0");
        Lived.leaves(ALONE, Calls.RANGE, "setLight(0, -1)", "setLight(0, 4)", "setLight(0, least)",
                "setLight(0, most)");
    }

    /** "and 1 to 6 actors". */
    private static void actors() {
        String start = "limits 0 0 0; scene 0;";
        TextTest.wrong(1, start + "^");
        TextTest.wrong(1, start + "^shot 9 9 0 none 1;");
        TextTest.wrong(1, start + "^scene 0; actor 0 1 1;");
        TextTest.right(0, start + "actor 0 1 1;");
        TextTest.right(0, start + ACTORS);
        Calls.rows("of six actors", Boards.loaded(start + ACTORS), "scene(0, 1)", "63");
        TextTest.wrong(3, start + ACTORS + "actor ^0 1 1;");
        TextTest.wrong(3, start + ACTORS + "actor ^5 1 1;");
        TextTest.wrong(2, start + ACTORS + "actor ^6 1 1;");
    }

    /** "each of whom has a number (0 to 5)". */
    private static void numbersOfActors() {
        String ends = "limits 0 0 0; scene 0; actor 5 1 2; actor 0 3 4; shot 9 9 5 0 1;";
        TextTest.right(1, ends);
        Calls.rows("of the actors 0 and 5", Boards.loaded(ends), "scene(0, 1)", "33",
                "actor(0, 0, false)", "3", "actor(0, 5, true)", "2", "shot(0, 3)", "5",
                "shot(0, 4)", "0", "moveActor(0, 5, 5, 6)", "0", "moveActor(0, 0, 7, 8)", "0",
                "setCast(0, 0, 5)", "0", "setCast(0, 5, -1)", "0", "stay(0)", "0.0", "stay(5)",
                "1.0");
        TextTest.wrong(2, "limits 0 0 0; scene 0; actor ^6 1 1;");
        Lived.leaves(ends, Calls.RANGE, "actor(0, -1, true)", "actor(0, 6, true)",
                "actor(0, 1, true)", "actor(0, 4, false)", "actor(0, 32, true)",
                "actor(0, least, true)", "actor(0, most, true)", "moveActor(0, -1, 1, 1)",
                "moveActor(0, 6, 1, 1)", "moveActor(0, 1, 1, 1)", "moveActor(0, 37, 1, 1)",
                "setCast(0, 6, 0)", "setCast(0, -1, 0)", "setCast(0, 1, 0)", "setCast(0, 0, 6)",
                "setCast(0, 0, 1)", "setCast(0, 0, -2)", "stay(-1)", "stay(6)");
    }

    /** "the place of an actor can be different in each scene." */
    private static void placesOfOneActor() {
        ShotListPlanner x = Boards.loaded("limits 0 0 0; scene 0; actor 4 1 2; scene 0;"
                + "actor 4 3 4; scene 0; actor 4 5 6;");
        Calls.rows("in three scenes", x, "actor(0, 4, false)", "1", "actor(1, 4, false)", "3",
                "actor(2, 4, true)", "6", "moveActor(1, 4, 9, 8)", "0", "actor(0, 4, false)", "1",
                "actor(0, 4, true)", "2", "actor(1, 4, false)", "9", "actor(1, 4, true)", "8",
                "actor(2, 4, false)", "5", "actor(2, 4, true)", "6");
    }

    /** "The distance of two places is the sum of the differences of x and of y, without signs." */
    private static void distance() {
        ShotListPlanner x = Boards.loaded("limits 10 2000 0; scene 0; actor 0 100 190;"
                + "shot 100 10 0 none 1; shot 106 14 0 none 1; shot 94 6 0 none 1;"
                + "shot 94 14 0 none 1; shot 106 6 0 none 1; shot 107 14 0 none 1;"
                + "shot 93 6 0 none 1; shot 94 15 0 none 1; shot 106 5 0 none 1;");
        for (int other = 1; other <= 8; other++) {
            String due = String.valueOf(other <= 4);
            Calls.rows("with R 10", x, "isNear(0, " + other + ")", due, "isNear(" + other + ", 0)",
                    due);
        }
    }

    /** "It is t if x > 0 and y >= 0; 2000 - t if x <= 0 and y > 0; ...", on the four axes. */
    private static void directionOnTheAxes() {
        ShotListPlanner x = Boards.loaded(ALONE);
        Calls.rows("on an axis", x, "direction(1, 0)", "0", "direction(199, 0)", "0",
                "direction(0, 1)", "1000", "direction(0, 199)", "1000", "direction(-1, 0)", "2000",
                "direction(-199, 0)", "2000", "direction(0, -1)", "3000", "direction(0, -199)",
                "3000", "direction(0, 0)", "-2");
        Calls.rows("along an axis", x, "moveCamera(0, 99, 100)", "0", "view(0)", "0",
                "moveCamera(0, 100, 99)", "0", "view(0)", "1000", "moveCamera(0, 101, 100)", "0",
                "view(0)", "2000", "moveCamera(0, 100, 101)", "0", "view(0)", "3000");
    }

    /** The nearest vectors on both sides of each axis; behind the last one the numbers end. */
    private static void directionBesideTheAxes() {
        Calls.rows("beside an axis", Boards.loaded(ALONE), "direction(199, 1)", "5",
                "direction(1, 199)", "995", "direction(-1, 199)", "1005", "direction(-199, 1)",
                "1995", "direction(-199, -1)", "2005", "direction(-1, -199)", "2995",
                "direction(1, -199)", "3005", "direction(199, -1)", "3995");
        Lived.leaves(ALONE, Calls.RANGE, "direction(200, 0)", "direction(-200, 0)",
                "direction(0, 200)", "direction(0, -200)", "direction(least, 1)",
                "direction(1, least)", "direction(most, 1)", "direction(1, most)");
    }

    /** "every division truncates": a third and two thirds in each quarter, and the diagonals. */
    private static void divisionsTruncate() {
        Calls.rows("truncated", Boards.loaded(ALONE), "direction(2, 1)", "333", "direction(1, 2)",
                "666", "direction(-1, 2)", "1334", "direction(-2, 1)", "1667", "direction(-2, -1)",
                "2333", "direction(-1, -2)", "2666", "direction(1, -2)", "3334", "direction(2, -1)",
                "3667", "direction(199, 199)", "500", "direction(-199, 199)", "1500",
                "direction(-199, -199)", "2500", "direction(199, -199)", "3500");
    }

    /** "the smaller one of d and 4000 - d": from 10 to 3990 it goes across 0. */
    private static void turnAcrossZero() {
        ShotListPlanner x = Boards.loaded("limits 0 0 0; scene 0; actor 0 100 100;"
                + "actor 1 199 101; shot 199 99 0 1 1;");
        Calls.rows("across 0", x, "direction(99, 1)", "10", "direction(99, -1)", "3990",
                "eyeline(0)", "20", "moveActor(0, 1, 199, 99)", "0", "eyeline(0)", "0",
                "moveCamera(0, 199, 101)", "0", "eyeline(0)", "20", "moveActor(0, 1, 199, 100)",
                "0", "eyeline(0)", "10", "moveCamera(0, 199, 99)", "0", "eyeline(0)", "10");
    }

    /** The same sentence where d is 2000, and where it is just below and just above. */
    private static void turnOfHalfACircle() {
        ShotListPlanner x = Boards.loaded("limits 0 0 0; scene 0; actor 0 100 100;"
                + "actor 1 199 100; shot 1 100 0 1 1;");
        Calls.rows("of half a circle", x, "eyeline(0)", "2000", "moveCamera(0, 1, 101)", "0",
                "eyeline(0)", "1990", "moveCamera(0, 1, 99)", "0", "eyeline(0)", "1990",
                "moveActor(0, 1, 199, 101)", "0", "eyeline(0)", "2000", "moveActor(0, 1, 199, 99)",
                "0", "eyeline(0)", "1980");
    }

    /** The same sentence for two views, 5 and 3995, in either order. */
    private static void turnOfNearShots() {
        ShotListPlanner x = Boards.loaded("limits 2 10 0; scene 0; actor 0 199 100;"
                + "shot 0 99 0 none 1; shot 0 101 0 none 1;");
        Calls.rows("across 0", x, "view(0)", "5", "view(1)", "3995", "isNear(0, 1)", "true",
                "isNear(1, 0)", "true", "setLimits(2, 9, 0)", "2", "isNear(0, 1)", "false",
                "isNear(1, 0)", "false");
    }
}
