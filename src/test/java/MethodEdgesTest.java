import java.util.ArrayList;
import java.util.List;

/** The boundary cases of the document's "Description" 6, METHODS: a test for each sentence. */
final class MethodEdgesTest {
    private static final String TWO = Boards.TWO_SCENES;
    /** Calls of all methods that need a board, with arguments that TWO has. */
    private static final String[] QUESTIONS = {"count(0)", "count(5)", "scene(0, 0)", "scene(1, 2)",
        "actor(0, 3, true)", "actor(1, 5, false)", "shot(0, 0)", "shot(5, 5)", "direction(1, 1)",
        "direction(-199, 199)", "view(0)", "view(5)", "side(0)", "side(5)", "look(0)", "look(5)",
        "visible(0)", "visible(5)", "eyeline(0)", "eyeline(5)", "isNear(0, 5)", "isNear(2, 2)",
        "faults()", "fault(0, 0)", "fault(2, 2)", "faultsOf(0)", "faultsOf(5)",
        "faultsWith(0, 0, 0)", "faultsWith(1, 75, 15)", "faultsWith(5, 199, 199)", "bestShot(0, 0)",
        "bestShot(0, 3)", "bestShot(1, 1)", "setups()", "setupOf(0)", "setupOf(5)", "setup(0, 0)",
        "setup(4, 4)", "joinable(0)", "joinable(3)", "joinable(5)", "leastReach(0)",
        "leastReach(5)", "leastReach(12)", "change(-1, 0)", "change(4, 0)", "plainCost()",
        "bestCost()", "ordered(0)", "ordered(4)", "days(17)", "days(9999)", "stay(0)", "stay(5)",
        "planByte(0)"};
    private static final String[] ACTIONS = {"setLimits(10, 200, 501)", "setLight(0, 2)",
        "moveActor(0, 3, 3, 60)", "moveCamera(0, 1, 1)", "setCast(0, 3, 1)", "setLength(0, 9)",
        "shift(0, 1)", "drop(5)", "flip(1)", "join(0, 1)", "mend()"};
    /** Shot 4 is of another scene, where setup 0 stands on its subject and setup 1 is blocked. */
    private static final String JOINS = "limits 10 200 500; scene 0; actor 0 50 50; actor 1 100 50;"
            + "shot 75 10 0 1 5; shot 75 90 0 none 5; shot 100 50 0 none 5; shot 75 90 1 none 5;"
            + "scene 0; actor 0 75 10; actor 1 75 50; shot 1 0 0 none 5;";

    private MethodEdgesTest() {
    }

    static void run() {
        withoutBoard();
        withoutBoardWhateverTheArguments();
        exceptionsBeforeNegativeResults();
        negativeResultsInTheirOrder();
        loadEmptiesTheBuffer();
        eachActionCanBeUndone();
        actionsThatMoveNothing();
        questionsChangeNothing();
        latestTenActions();
        elevenActionsOfAllKinds();
        actionsBehindUndo();
        undoAndLoad();
    }

    /** Without a board, but with a text in the buffer, and an error behind it. */
    private static ShotListPlanner bare() {
        ShotListPlanner planner = new ShotListPlanner();
        Boards.put(planner, "limits x");
        planner.load();
        Boards.put(planner, TWO);
        return planner;
    }

    /** "All methods except ... throw IllegalStateException if no board was loaded". */
    private static void withoutBoard() {
        Lived.leaves(MethodEdgesTest::bare, Calls.STATE, QUESTIONS);
        Lived.leaves(MethodEdgesTest::bare, Calls.STATE, ACTIONS);
        Lived.leaves(MethodEdgesTest::bare, Calls.STATE, "writePlan()", "undo()");
        ShotListPlanner x = bare();
        Calls.rows("with a board", x, "load()", "6", "count(1)", "6", "mend()", "2", "undo()", "0");
    }

    /** "(checked first)": before an argument that is out of every range. */
    private static void withoutBoardWhateverTheArguments() {
        List<String> calls = new ArrayList<>();
        for (String[] some : new String[][] {QUESTIONS, ACTIONS}) {
            for (String call : some) {
                calls.add(call.replaceAll("-?[0-9]+", "least"));
                calls.add(call.replaceAll("-?[0-9]+", "most"));
                calls.add(call.replaceAll("-?[0-9]+", "-2"));
            }
        }
        Lived.leaves(MethodEdgesTest::bare, Calls.STATE, calls.toArray(new String[0]));
    }

    /** "they are checked in that order, behind the exceptions." */
    private static void exceptionsBeforeNegativeResults() {
        Lived.leaves(TWO, Calls.RANGE, "moveActor(0, 0, 75, 200)", "moveActor(2, 0, 75, 10)",
                "moveActor(0, 2, 75, 10)", "moveCamera(6, 50, 50)", "moveCamera(0, 50, 200)",
                "setCast(0, 2, 2)", "setCast(0, 6, 6)", "setCast(0, -1, -1)", "setCast(6, 0, 0)",
                "shift(0, 6)", "shift(6, 0)", "shift(-1, 5)", "flip(6)", "flip(-1)", "join(0, 5)",
                "join(6, 4)", "join(4, -1)", "direction(0, 200)", "direction(-200, 0)",
                "eyeline(6)", "faultsWith(0, 50, 200)", "faultsWith(6, 50, 50)", "days(0)",
                "leastReach(13)", "leastReach(-1)");
        String seven = ShotEdgesTest.shots(7);
        Lived.leaves(seven, "-2", "bestShot(0, 0)", "bestShot(0, 6)", "bestShot(0, 7)",
                "bestShot(0, most)");
        Lived.leaves(seven, Calls.RANGE, "bestShot(0, -1)", "bestShot(0, least)", "bestShot(1, 0)",
                "bestShot(-1, 0)");
    }

    /** The same sentence where several negative results would be right. */
    private static void negativeResultsInTheirOrder() {
        Lived.leaves(ShotEdgesTest.MEET, "-2", "setCast(0, 1, 1)", "setCast(1, 1, 1)");
        Lived.leaves(ShotEdgesTest.MEET, "-3", "setCast(0, 1, 0)", "setCast(0, 1, -1)");
        Lived.leaves(JOINS, "-2", "join(4, 0)", "join(4, 1)", "join(4, 3)", "join(0, 4)");
        Lived.leaves(JOINS, "-3", "join(3, 2)");
        Lived.leaves(JOINS, "-4", "join(1, 0)");
        Lived.leaves(TWO, "-2", "flip(2)", "eyeline(2)", "shift(3, 4)", "shift(4, 0)", "days(8)",
                "leastReach(4)", "direction(0, 0)");
    }

    /** "load() always empties the text buffer", whether the text is right or wrong. */
    private static void loadEmptiesTheBuffer() {
        String[] texts = {"", " ", TWO, "limits x", TWO + "x", TWO + "scene 4;",
            TWO + "scene 0; actor 0 1 1; actor 0", TWO + "scene 0; actor 0 1 1; scene"};
        int[] due = {-11, -11, 6, -11, -11, -12, -13, -14};
        for (int i = 0; i < texts.length; i++) {
            ShotListPlanner x = Boards.loaded(Boards.NO_SHOTS);
            Boards.put(x, texts[i]);
            Calls.rows("of " + texts[i], x, "load()", String.valueOf(due[i]), "truncate(1)",
                    Calls.RANGE, "truncate(0)", "0", "load()", "-11", "errorPosition()", "0",
                    "append(0, 0, 0, 0, 0)", "20", "load()", "-11", "truncate(1)", Calls.RANGE);
        }
        ShotListPlanner full = Boards.loaded(Boards.NO_SHOTS);
        Boards.put(full, " ".repeat(800));
        Calls.rows("with a full buffer", full, "append(0, 0, 0, 0, 0)", Calls.STATE, "load()",
                "-11", "append(0, 0, 0, 0, 0)", "20");
    }

    /** "each action that succeeds can be undone." */
    private static void eachActionCanBeUndone() {
        Lived.canUndo(TWO, "6", "setLimits(4, 200, 500)");
        Lived.canUndo(TWO, "3", "setLight(1, 0)");
        Lived.canUndo(TWO, "1", "moveActor(0, 1, 75, 10)");
        Lived.canUndo(TWO, "1", "moveCamera(1, 75, 15)");
        Lived.canUndo(TWO, "1", "setCast(1, 3, 1)");
        Lived.canUndo(TWO, "5", "setLength(0, 99)");
        Lived.canUndo(TWO, "1", "shift(0, 3)");
        Lived.canUndo(TWO, "5", "drop(0)");
        Lived.canUndo(TWO, "5", "drop(5)");
        Lived.canUndo(TWO, "1", "flip(0)");
        Lived.canUndo(TWO, "1", "join(0, 1)");
        Lived.canUndo(TWO, "2", "mend()");
    }

    /** Actions that leave all as it is are actions, too. */
    private static void actionsThatMoveNothing() {
        Lived.canUndo(TWO, "5", "setLimits(10, 200, 500)");
        Lived.canUndo(TWO, "3", "setLight(1, 3)");
        Lived.canUndo(TWO, "3", "moveActor(0, 0, 50, 50)");
        Lived.canUndo(TWO, "3", "moveCamera(1, 75, 90)");
        Lived.canUndo(TWO, "3", "setCast(1, 1, 0)");
        Lived.canUndo(TWO, "5", "setLength(0, 5)");
        Lived.canUndo(TWO, "3", "shift(2, 2)");
        Lived.canUndo(TWO, "3", "join(1, 1)");
        Lived.canUndo("limits 0 0 0; scene 0; actor 0 10 10; actor 1 14 10; shot 12 10 0 1 1;",
                "0", "flip(0)");
    }

    /** "All methods except the actions, append(), ... and writePlan() change nothing." */
    private static void questionsChangeNothing() {
        Lived.areQuestions(() -> Lived.with(TWO), QUESTIONS);
        Lived.areQuestions(() -> Lived.with(TWO), "errorPosition()");
        Lived.areQuestions(() -> Lived.with(JOINS), "joinable(0)", "joinable(1)", "joinable(4)",
                "faultsWith(1, 75, 10)", "faultsWith(4, 75, 90)", "leastReach(1)",
                "bestShot(0, 0)");
    }

    /** "The latest 10 actions are remembered.": the first of eleven ones is not. */
    private static void latestTenActions() {
        ShotListPlanner x = Boards.loaded(TWO);
        for (int seconds = 11; seconds <= 20; seconds++) {
            x.setLength(0, seconds);
        }
        for (int left = 9; left >= 0; left--) {
            Calls.rows("of ten actions", x, "undo()", String.valueOf(left), "shot(0, 5)",
                    left == 0 ? "5" : String.valueOf(10 + left));
        }
        Calls.rows("of ten actions", x, "undo()", "-2", "shot(0, 5)", "5");
        for (int seconds = 11; seconds <= 21; seconds++) {
            x.setLength(0, seconds);
        }
        for (int left = 9; left >= 0; left--) {
            Calls.rows("of eleven actions", x, "undo()", String.valueOf(left), "shot(0, 5)",
                    String.valueOf(11 + left));
        }
        Calls.rows("of eleven actions", x, "undo()", "-2", "shot(0, 5)", "11");
    }

    /** The same sentence with each action once: each one may be the one that is forgotten. */
    private static void elevenActionsOfAllKinds() {
        for (int first = 0; first < ACTIONS.length; first++) {
            ShotListPlanner x = Boards.loaded(TWO);
            List<String> states = new ArrayList<>();
            for (int i = 0; i < ACTIONS.length; i++) {
                String action = ACTIONS[(first + i) % ACTIONS.length];
                boolean hasSucceeded = !Calls.answer(x, action).startsWith("-");
                Checks.same(action + " of eleven actions", true, hasSucceeded);
                states.add(Lived.answersOf(x));
            }
            for (int left = 9; left >= 0; left--) {
                Calls.rows("of eleven actions", x, "undo()", String.valueOf(left));
                Checks.same("all behind it", states.get(left), Lived.answersOf(x));
            }
            Calls.rows("of eleven actions", x, "undo()", "-2");
            Checks.same("all behind it", states.get(0), Lived.answersOf(x));
        }
    }

    /** An action behind undo() takes the place of the one that was undone. */
    private static void actionsBehindUndo() {
        ShotListPlanner x = Boards.loaded(TWO);
        for (int seconds = 11; seconds <= 22; seconds++) {
            x.setLength(0, seconds);
        }
        Calls.rows("of twelve actions", x, "undo()", "9", "undo()", "8", "setLength(0, 30)", "20",
                "setLength(0, 31)", "30", "setLength(0, 32)", "31", "undo()", "9", "shot(0, 5)",
                "31", "undo()", "8", "shot(0, 5)", "30", "undo()", "7", "shot(0, 5)", "20",
                "undo()", "6", "shot(0, 5)", "19");
        for (int left = 5; left >= 0; left--) {
            Calls.rows("of the rest", x, "undo()", String.valueOf(left), "shot(0, 5)",
                    String.valueOf(13 + left));
        }
        Calls.rows("of the rest", x, "undo()", "-2", "shot(0, 5)", "13");
    }

    /** Only a correct text makes the planner forget its actions. */
    private static void undoAndLoad() {
        ShotListPlanner x = Boards.loaded(TWO);
        x.setLength(0, 50);
        x.setLength(0, 60);
        Boards.put(x, "limits 1 2 3; scene 0; actor 0 1 1");
        Calls.rows("of a wrong text", x, "load()", "-11", "undo()", "1", "shot(0, 5)", "50");
        Boards.put(x, Boards.PAIR);
        Calls.rows("of a correct text", x, "load()", "3", "undo()", "-2", "count(1)", "3",
                "setLength(0, 7)", "5", "undo()", "0", "undo()", "-2", "shot(0, 5)", "5");
    }
}
