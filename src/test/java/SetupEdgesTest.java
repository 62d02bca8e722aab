/** The boundary cases of the document's "Description" 4, SETUPS: a test for each sentence. */
final class SetupEdgesTest {
    /** Four setups that see one actor each: the scenes' lights are 0, 3 and 0. */
    private static final String LIGHTS = "limits 0 0 0; scene 0; actor 0 10 10;"
            + "shot 20 10 0 none 1; scene 3; actor 0 10 10; shot 20 10 0 none 1;"
            + "scene 0; actor 1 10 10; actor 2 10 30; shot 20 10 1 none 1; shot 20 30 2 none 1;";

    private SetupEdgesTest() {
    }

    static void run() {
        noShot();
        oneSetup();
        setupWithTheLowestNumber();
        nearToTheFirstShotOnly();
        actorsOfASetup();
        lengthOfASetup();
        costOfScenesAndLights();
        costOfActors();
        costOfTheFirstSetup();
        oneBestOrder();
        severalBestOrders();
        manyBestOrders();
    }

    /** No shot at all: no setup, an order of nothing. */
    private static void noShot() {
        ShotListPlanner x = Boards.loaded(Boards.NO_SHOTS);
        Calls.rows("without shots", x, "setups()", "0", "plainCost()", "0", "bestCost()", "0",
                "days(1)", "0", "days(9999)", "0", "stay(0)", "0.0", "stay(4)", "0.0", "faults()",
                "0", "count(5)", "0", "leastReach(0)", "0", "leastReach(12)", "0",
                "setLimits(99, 2000, 2000)", "0", "writePlan()", "0", "undo()", "0");
        Lived.leaves(Boards.NO_SHOTS, "-2", "mend()");
        Lived.leaves(Boards.NO_SHOTS, Calls.NO_SUCH, "ordered(0)", "fault(0, 0)", "bestShot(0, 0)");
        Lived.leaves(Boards.NO_SHOTS, Calls.RANGE, "ordered(-1)", "fault(-1, 0)", "bestShot(0, -1)",
                "setup(0, 0)", "setupOf(0)", "joinable(0)", "join(0, 0)", "change(-1, 0)",
                "change(0, 0)", "isNear(0, 0)", "shift(0, 0)", "drop(0)", "flip(0)", "shot(0, 0)",
                "moveCamera(0, 1, 1)", "setCast(0, 4, -1)", "setLength(0, 1)",
                "faultsWith(0, 1, 1)", "faultsOf(0)", "view(0)", "side(0)", "look(0)", "visible(0)",
                "eyeline(0)");
    }

    /** One setup: the order is its own start. */
    private static void oneSetup() {
        ShotListPlanner x = Boards.loaded("limits 0 0 2000; scene 2; actor 0 10 10; actor 5 20 20;"
                + "actor 3 7 9; shot 30 10 0 none 4; shot 30 10 0 none 5;");
        Calls.rows("of one setup", x, "setups()", "1", "setup(0, 0)", "0", "setup(0, 1)", "3",
                "setup(0, 2)", "41", "setup(0, 3)", "9", "setup(0, 4)", "0", "setup(1, 0)",
                Calls.RANGE, "change(0, 0)", "0", "change(-1, 0)", "6", "plainCost()", "6",
                "bestCost()", "6", "ordered(0)", "0", "ordered(1)", Calls.NO_SUCH, "days(8)", "-2",
                "days(9)", "1", "stay(0)", "1.0", "stay(1)", "0.0", "joinable(0)", "0",
                "joinable(1)", "0", "leastReach(1)", "0", "leastReach(0)", "-2");
    }

    /** "a shot joins the setup with the lowest number whose first shot it is near to". */
    private static void setupWithTheLowestNumber() {
        ShotListPlanner x = Boards.loaded("limits 10 2000 0; scene 0; actor 0 100 100;"
                + "shot 30 10 0 none 1; shot 10 10 0 none 1; shot 20 10 0 none 1;"
                + "shot 19 10 0 none 1; shot 21 10 0 none 1; shot 50 10 0 none 1;");
        Calls.rows("in a row", x, "setupOf(0)", "0", "setupOf(1)", "1", "setupOf(2)", "0",
                "setupOf(3)", "1", "setupOf(4)", "0", "setupOf(5)", "2", "setups()", "3");
    }

    /** "if there is none, it is the first shot of a new setup", also if it is near to others. */
    private static void nearToTheFirstShotOnly() {
        ShotListPlanner x = Boards.loaded("limits 10 2000 0; scene 0; actor 0 100 100;"
                + "shot 10 10 0 none 1; shot 20 10 0 none 1; shot 21 10 0 none 1;");
        Calls.rows("in a row", x, "isNear(1, 2)", "true", "isNear(0, 2)", "false", "setupOf(1)",
                "0", "setupOf(2)", "1", "setup(1, 0)", "2", "setup(0, 1)", "3", "setup(1, 1)", "4",
                "drop(0)", "2", "setups()", "1", "undo()", "0", "setups()", "2");
    }

    /** "all actors that are visible in one of its shots", not only in the first one. */
    private static void actorsOfASetup() {
        ShotListPlanner x = Boards.loaded("limits 0 2000 0; scene 0; actor 0 0 0; actor 1 0 20;"
                + "actor 5 90 90; shot 10 10 0 none 1; shot 10 10 1 none 1; shot 10 10 5 none 1;");
        Calls.rows("of three views", x, "setup(0, 2)", "35", "drop(2)", "2", "setup(0, 2)", "3",
                "drop(0)", "1", "setup(0, 2)", "2");
    }

    /** "The length of a setup is the sum of the lengths of its shots." */
    private static void lengthOfASetup() {
        String text = ShotEdgesTest.shots(12).replace("none 3", "none 99");
        ShotListPlanner x = Boards.loaded(text);
        Calls.rows("of twelve long shots", x, "setups()", "1", "setup(0, 3)", "1188", "count(5)",
                "1188", "days(1187)", "-2", "days(1188)", "1", "setLength(0, 1)", "99",
                "setup(0, 3)", "1090");
    }

    /** "9 if their scenes are different; plus 4 times the difference of the lights". */
    private static void costOfScenesAndLights() {
        ShotListPlanner x = Boards.loaded(LIGHTS);
        Calls.rows("of three scenes", x, "change(0, 1)", "21", "change(1, 0)", "21", "change(0, 2)",
                "11", "change(2, 0)", "11", "change(1, 2)", "23", "change(2, 3)", "2",
                "change(3, 2)", "2", "change(3, 3)", "0", "change(1, 1)", "0", "setLight(1, 0)",
                "3", "change(0, 1)", "9", "setLight(1, 1)", "0", "change(0, 1)", "13",
                "change(1, 0)", "13", "setLight(1, 2)", "1", "change(1, 0)", "17");
    }

    /** "plus 2 times the number of actors of q that are not actors of p". */
    private static void costOfActors() {
        ShotListPlanner x = Boards.loaded("limits 0 0 2000; scene 1; actor 0 10 10;"
                + "shot 20 10 0 none 1; scene 1; actor 0 10 10; actor 1 10 30; actor 5 30 30;"
                + "shot 20 10 0 none 1; scene 1; actor 1 10 10; actor 2 10 30;"
                + "shot 20 10 1 none 1;");
        Calls.rows("of one, three and two actors", x, "change(0, 1)", "13", "change(1, 0)", "9",
                "change(1, 2)", "11", "change(2, 1)", "13", "change(0, 2)", "13", "change(2, 0)",
                "11");
    }

    /** "The first setup of an order costs 2 times the number of its actors." */
    private static void costOfTheFirstSetup() {
        ShotListPlanner x = Boards.loaded("limits 0 0 2000; scene 3; actor 0 1 1; actor 1 2 1;"
                + "actor 2 3 1; actor 3 4 1; actor 4 5 1; actor 5 6 1; shot 9 9 0 none 1;"
                + "scene 3; actor 4 1 1; shot 9 9 4 none 1;");
        Calls.rows("of six actors and of one", x, "change(-1, 0)", "12", "change(-1, 1)", "2",
                "plainCost()", "21", "bestCost()", "21", "ordered(0)", "0");
    }

    /** The best order is none of the plain ones: 1, 0, 2, 3 costs 36, as 2, 3, 0, 1 does. */
    private static void oneBestOrder() {
        ShotListPlanner x = Boards.loaded(LIGHTS);
        Calls.rows("of three scenes", x, "plainCost()", "48", "bestCost()", "36", "ordered(0)", "1",
                "ordered(1)", "0", "ordered(2)", "2", "ordered(3)", "3", "ordered(4)",
                Calls.NO_SUCH);
        Lived.leaves(LIGHTS, Calls.NO_SUCH, "ordered(4)", "ordered(most)");
        Lived.leaves(LIGHTS, Calls.RANGE, "ordered(-1)", "ordered(least)", "change(-2, 0)",
                "change(4, 0)", "change(0, 4)", "change(0, -1)", "change(-1, -1)", "change(-1, 4)",
                "change(least, 0)", "change(0, most)");
    }

    /** "of several the lexicographically least sequence of numbers": 0, 1 costs 15 as 1, 0 does. */
    private static void severalBestOrders() {
        ShotListPlanner x = Boards.loaded("limits 0 0 2000; scene 1; actor 0 10 10;"
                + "shot 20 10 0 none 1; scene 1; actor 0 10 10; actor 1 10 30; actor 5 30 30;"
                + "shot 20 10 0 none 1;");
        Calls.rows("of two orders", x, "plainCost()", "15", "bestCost()", "15", "ordered(0)", "0",
                "ordered(1)", "1");
    }

    /** Twelve setups that are all alike: every order is a best one. */
    private static void manyBestOrders() {
        StringBuilder text = new StringBuilder("limits 0 0 0; scene 0; actor 0 0 0;");
        for (int shot = 0; shot < 12; shot++) {
            text.append("shot ").append(1 + shot).append(" 9 0 none 1;");
        }
        ShotListPlanner x = Boards.loaded(text.toString());
        Calls.rows("of twelve setups", x, "setups()", "12", "bestCost()", "2", "plainCost()", "2",
                "ordered(12)", Calls.NO_SUCH);
        for (int place = 0; place < 12; place++) {
            Calls.rows("of twelve setups", x, "ordered(" + place + ")", String.valueOf(place));
        }
    }
}
