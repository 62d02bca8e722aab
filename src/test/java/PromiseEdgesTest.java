/** The boundary cases that stand in the promises' own sections, in their order. */
final class PromiseEdgesTest {
    private static final String TWO = Boards.TWO_SCENES;
    /** Flips that lead just onto the edge of the stage, just over it, or to the subject. */
    private static final String FLIPS = "limits 0 0 0; scene 0; actor 0 0 100; actor 1 10 100;"
            + "shot 5 1 0 1 5; shot 5 0 0 1 5; shot 10 90 0 1 5; shot 11 90 0 1 5;"
            + "shot 10 100 0 1 5; shot 5 5 1 none 5; scene 0; actor 0 190 0; actor 1 199 9;"
            + "shot 190 9 1 0 5; shot 189 8 1 0 5; shot 195 10 1 0 5; shot 191 1 1 0 5;";

    private PromiseEdgesTest() {
    }

    static void run() {
        newObject();
        appendToTheFullBuffer();
        appendInItsOrder();
        appendBehindTheRest();
        truncate();
        loadAnswers();
        loadReplaces();
        errorPosition();
        whatOfTheBoard();
        argumentsOfActions();
        setLimitsAnswers();
        moveActor();
        shift();
        drop();
        flip();
        join();
        mend();
        mendOrder();
        argumentsOfQuestions();
        eyeline();
        faultsWith();
        bestShot();
        setups();
        joinable();
        leastReach();
        change();
        days();
        stay();
        writePlan();
        planByte();
        undo();
    }

    /** Promise 1: "without a board and with an empty text buffer". */
    private static void newObject() {
        Checks.same("a new object", "error -1 buffer 0\n-2: no board\nload -11 0 no board",
                Lived.everythingOf(new ShotListPlanner()));
        Calls.rows("of a new object", new ShotListPlanner(), "truncate(1)", Calls.RANGE,
                "truncate(0)", "0", "load()", "-11", "errorPosition()", "0");
        Checks.same("NONE", -1, ShotListPlanner.NONE);
    }

    private static ShotListPlanner withBuffer(int length) {
        ShotListPlanner planner = Boards.loaded(TWO);
        Boards.put(planner, (Boards.NO_SHOTS + " ".repeat(800)).substring(0, length));
        return planner;
    }

    /** Promise 2: "if the length would be above 800 (then nothing is appended)". */
    private static void appendToTheFullBuffer() {
        for (int length : new int[] {0, 1, 760, 779, 780}) {
            Calls.rows("to " + length + " bytes", withBuffer(length),
                    "append(538976288, 538976288, 538976288, 538976288, 538976288)",
                    String.valueOf(length + 20), "truncate(" + (length + 21) + ")", Calls.RANGE,
                    "truncate(" + (length + 20) + ")", String.valueOf(length + 20));
        }
        for (int length : new int[] {781, 782, 799, 800}) {
            Lived.leaves(() -> withBuffer(length), Calls.STATE, "append(0, 0, 0, 0, 0)",
                    "append(1, 2, 3, 4, 5)", "append(-1, -1, -1, -1, -1)");
        }
        Calls.rows("of 800 bytes", withBuffer(800), "load()", "0", "errorPosition()", "-1");
    }

    /** "the four bytes of each argument in order, the most significant byte first". */
    private static void appendInItsOrder() {
        int blanks = 0x20202020;
        for (int place = 0; place < 20; place++) {
            for (int sign : new int[] {0, 1, 127, 128, 255}) {
                int[] five = {blanks, blanks, blanks, blanks, blanks};
                int shift = 24 - 8 * (place % 4);
                five[place / 4] = blanks & ~(255 << shift) | sign << shift;
                ShotListPlanner x = new ShotListPlanner();
                x.append(five[0], five[1], five[2], five[3], five[4]);
                Calls.rows("of the byte " + sign + " at " + place, x, "load()", "-11",
                        "errorPosition()", String.valueOf(place));
            }
        }
    }

    /** Bytes follow those that are left, also behind truncate(). */
    private static void appendBehindTheRest() {
        ShotListPlanner x = new ShotListPlanner();
        Boards.put(x, "limits 1 2 3;xxxxxxxxxxxxxxxxxxxxxxxxx");
        x.truncate(13);
        Boards.put(x, "scene 0; actor 3 7 8;");
        Calls.rows("of both parts", x, "truncate(35)", Calls.RANGE, "load()", "0",
                "actor(0, 3, true)", "8");
    }

    /** Promise 3: "if length is negative or greater than the present length". */
    private static void truncate() {
        for (int length : new int[] {0, 1, 33, 800}) {
            String more = "truncate(" + (length + 1) + ")";
            Lived.leaves(() -> withBuffer(length), Calls.RANGE, "truncate(-1)", more,
                    "truncate(most)", "truncate(least)");
            Lived.leaves(() -> withBuffer(length), String.valueOf(length),
                    "truncate(" + length + ")");
        }
        Calls.rows("of 33 bytes", withBuffer(33), "truncate(32)", "32", "truncate(33)", Calls.RANGE,
                "load()", "-11", "errorPosition()", "32");
        Calls.rows("of 33 bytes", withBuffer(33), "truncate(0)", "0", "truncate(1)", Calls.RANGE,
                "load()", "-11", "errorPosition()", "0");
        Calls.rows("without a board", new ShotListPlanner(), "truncate(-1)", Calls.RANGE,
                "append(0, 0, 0, 0, 0)", "20", "truncate(21)", Calls.RANGE, "truncate(20)", "20");
    }

    /** Promise 4: "the number of shots; -10 minus the error code if the text is wrong." */
    private static void loadAnswers() {
        ShotListPlanner x = new ShotListPlanner();
        String[] texts = {ShotEdgesTest.shots(0), ShotEdgesTest.shots(1), ShotEdgesTest.shots(12),
            ShotEdgesTest.shots(12) + "shot", "limits 100 0 0;",
            "limits 0 0 0; scene 0; actor 0 1 1; actor 0 1 1;", "limits"};
        String[] due = {"0", "1", "12", "-14", "-12", "-13", "-11"};
        for (int i = 0; i < texts.length; i++) {
            Boards.put(x, texts[i]);
            Calls.rows("of text " + i, x, "load()", due[i]);
        }
        Calls.rows("behind wrong texts", x, "count(1)", "12");
    }

    /** "it replaces the current board": nothing of the former one is left. */
    private static void loadReplaces() {
        ShotListPlanner x = Lived.with(TWO);
        x.truncate(0);
        Boards.put(x, Boards.PAIR);
        x.load();
        ShotListPlanner fresh = Boards.loaded(Boards.PAIR);
        x.writePlan();
        fresh.writePlan();
        Checks.same("everything of a second board", Lived.everythingOf(fresh),
                Lived.everythingOf(x));
    }

    /** Promise 5: "NONE if load() was never called or the latest call found no error." */
    private static void errorPosition() {
        ShotListPlanner x = new ShotListPlanner();
        Calls.rows("before load()", x, "errorPosition()", "-1", "append(0, 0, 0, 0, 0)", "20",
                "errorPosition()", "-1", "count(0)", Calls.STATE, "errorPosition()", "-1",
                "load()", "-11", "errorPosition()", "0", "append(0, 0, 0, 0, 0)", "20",
                "truncate(0)", "0", "errorPosition()", "0");
        Boards.put(x, TWO + "y");
        Calls.rows("behind a wrong text", x, "errorPosition()", "0", "load()", "-11",
                "errorPosition()", String.valueOf(TWO.length()));
        Boards.put(x, TWO);
        Calls.rows("behind a correct text", x, "load()", "6", "errorPosition()", "-1",
                "setLight(0, 0)", "1", "undo()", "0", "errorPosition()", "-1");
        Boards.put(x, " ".repeat(800));
        Calls.rows("of 800 blanks", x, "load()", "-11", "errorPosition()", "800",
                "setLight(0, 0)", "1", "undo()", "0", "drop(9)", Calls.RANGE, "errorPosition()",
                "800");
    }

    /** Promises 6 to 9: "what", scenes, actors and shots, each just inside and just outside. */
    private static void whatOfTheBoard() {
        Calls.rows("of two scenes", Boards.loaded(TWO), "count(0)", "2", "count(5)", "39",
                "scene(0, 0)", "1", "scene(0, 2)", "4", "scene(1, 2)", "2", "actor(0, 0, false)",
                "50", "actor(1, 5, true)", "10", "actor(1, 5, false)", "20", "shot(0, 0)", "0",
                "shot(0, 5)", "5", "shot(5, 0)", "1", "shot(5, 5)", "9");
        Lived.leaves(TWO, Calls.RANGE, "count(-1)", "count(6)", "count(least)", "count(most)",
                "scene(-1, 0)", "scene(2, 0)", "scene(0, -1)", "scene(0, 3)", "scene(2, 3)",
                "scene(most, least)", "actor(-1, 0, true)", "actor(2, 0, true)",
                "actor(0, -1, false)", "actor(0, 2, false)", "actor(0, 4, true)",
                "actor(0, 5, true)", "actor(0, 6, true)", "actor(1, 1, true)", "actor(1, 3, true)",
                "actor(1, 31, true)", "actor(0, 33, true)", "shot(-1, 0)", "shot(6, 0)",
                "shot(12, 0)", "shot(0, -1)", "shot(0, 6)", "shot(6, 6)");
    }

    /** Promises 10 to 19: what the edges of numbers in Description 1 and 2 leave open. */
    private static void argumentsOfActions() {
        Lived.leaves(TWO, Calls.RANGE, "setLimits(-1, 2000, 2000)", "setLimits(100, 2000, 2000)",
                "setLimits(99, -1, 2000)", "setLimits(99, 2001, 2000)", "setLimits(99, 2000, -1)",
                "setLimits(99, 2000, 2001)", "setLimits(least, most, 0)", "setLight(-1, 3)",
                "setLight(2, 3)", "setLight(1, -1)", "setLight(1, 4)", "moveActor(-1, 0, 9, 9)",
                "moveActor(2, 0, 9, 9)", "moveActor(1, 1, 9, 9)", "moveActor(1, -1, 9, 9)",
                "moveActor(1, 6, 9, 9)", "moveCamera(-1, 9, 9)", "moveCamera(6, 9, 9)",
                "moveCamera(12, 9, 9)", "setCast(-1, 0, 1)", "setCast(6, 0, 1)", "setCast(3, 2, 0)",
                "setCast(3, 0, 2)", "setCast(5, 5, 3)", "setLength(-1, 9)", "setLength(6, 9)",
                "setLength(5, 0)", "setLength(5, 100)", "shift(-1, 0)", "shift(0, -1)",
                "shift(6, 5)", "shift(5, 6)", "drop(-1)", "drop(6)", "drop(most)", "flip(-1)",
                "flip(6)", "flip(least)", "join(-1, 0)", "join(6, 0)", "join(0, -1)", "join(0, 5)",
                "join(0, most)");
    }

    /** Promises 10, 11 and 15: both ends of each range, and the answers "then" and "former". */
    private static void setLimitsAnswers() {
        Calls.rows("at the ends", Boards.loaded(TWO), "setLimits(0, 0, 0)", "6", "count(2)", "0",
                "count(3)", "0", "count(4)", "0", "setLimits(99, 2000, 2000)", "2", "count(2)",
                "99", "count(3)", "2000", "count(4)", "2000", "setLight(1, 0)", "3",
                "setLight(1, 3)", "0", "setLight(1, 3)", "3", "setLength(5, 1)", "9",
                "setLength(5, 99)", "1", "setLength(5, 99)", "99");
    }

    /** Promise 12: "if a shot of the scene with this subject has its camera there." */
    private static void moveActor() {
        Lived.leaves(TWO, "-2", "moveActor(0, 0, 75, 10)", "moveActor(0, 0, 80, 10)",
                "moveActor(0, 1, 75, 90)", "moveActor(0, 1, 60, 10)", "moveActor(1, 0, 40, 10)",
                "moveActor(1, 2, 5, 40)");
        Calls.rows("where others' cameras are", Boards.loaded(TWO), "moveActor(0, 0, 40, 10)", "3",
                "moveActor(0, 0, 5, 40)", "3", "moveActor(0, 3, 75, 10)", "3",
                "moveActor(0, 3, 75, 90)", "3", "moveActor(0, 3, 60, 10)", "3",
                "moveActor(1, 5, 40, 10)", "3", "moveActor(1, 2, 40, 10)", "2",
                "moveActor(1, 5, 5, 40)", "2");
    }

    private static String lengths(ShotListPlanner x) {
        StringBuilder lengths = new StringBuilder();
        for (int shot = 0; shot < x.count(1); shot++) {
            lengths.append(x.shot(shot, 5));
        }
        return lengths.toString();
    }

    private static void ordersShots(String call, String due) {
        ShotListPlanner x = Boards.loaded(TWO);
        Calls.answer(x, call);
        Checks.same("the lengths behind " + call, due, lengths(x));
    }

    /** Promise 16: from the first number to the last one of a scene, and not beyond. */
    private static void shift() {
        ordersShots("shift(0, 3)", "647589");
        ordersShots("shift(3, 0)", "756489");
        ordersShots("shift(0, 0)", "564789");
        ordersShots("shift(3, 3)", "564789");
        ordersShots("shift(2, 1)", "546789");
        ordersShots("shift(4, 5)", "564798");
        ordersShots("shift(5, 4)", "564798");
        Lived.leaves(TWO, "-2", "shift(3, 4)", "shift(4, 3)", "shift(0, 5)", "shift(5, 0)");
    }

    /** Promise 17: the first shot, the last one, and those at the edge of a scene. */
    private static void drop() {
        ordersShots("drop(0)", "64789");
        ordersShots("drop(3)", "56489");
        ordersShots("drop(4)", "56479");
        ordersShots("drop(5)", "56478");
        Calls.rows("of a whole scene", Boards.loaded(TWO), "drop(4)", "5", "drop(4)", "4",
                "scene(1, 2)", "0", "drop(4)", Calls.RANGE, "count(0)", "2", "scene(1, 1)", "37",
                "bestShot(1, 0)", Calls.NO_SUCH, "undo()", "1", "scene(1, 2)", "1");
    }

    /** Promise 18: "not on the stage (0 to 199)" on each of its four sides. */
    private static void flip() {
        Calls.rows("at the edges", Boards.loaded(FLIPS), "flip(0)", "1", "shot(0, 1)", "5",
                "shot(0, 2)", "199", "flip(2)", "3", "shot(2, 1)", "0", "shot(2, 2)", "110",
                "flip(6)", "4", "shot(6, 1)", "199", "shot(6, 2)", "0", "flip(9)", "4",
                "shot(9, 1)", "198", "shot(9, 2)", "8");
        Lived.leaves(FLIPS, "-3", "flip(1)", "flip(3)", "flip(7)", "flip(8)");
        Lived.leaves(FLIPS, "-4", "flip(4)");
        Lived.leaves(FLIPS, "-2", "flip(5)");
    }

    /** Promise 19: "(also of its own one)", and "if there would be more faults than before". */
    private static void join() {
        String text = "limits 5 2000 0; scene 0; actor 0 50 50; actor 1 100 50;"
                + "shot 60 10 0 none 1; shot 64 10 0 none 1; shot 80 10 0 none 1;"
                + "shot 90 10 1 none 1;";
        Calls.rows("of its own setup", Boards.loaded(text), "faults()", "1", "setupOf(1)", "0",
                "join(1, 0)", "1", "shot(1, 1)", "60", "join(0, 0)", "1", "undo()", "1");
        Lived.leaves(text, "-4", "join(2, 0)");
        Calls.rows("with as many faults", Boards.loaded(text), "join(3, 0)", "1", "shot(3, 1)",
                "60", "shot(3, 2)", "10");
        Calls.rows("with fewer faults", Boards.loaded(text), "join(1, 2)", "0", "shot(1, 1)", "90");
    }

    /** Promise 20: "as long as a flip() of some shot would lead to fewer faults". */
    private static void mend() {
        Calls.rows("of a pair", Boards.loaded(Boards.PAIR), "mend()", "1", "shot(0, 1)", "75",
                "shot(0, 2)", "90", "faults()", "0", "mend()", "-2", "undo()", "0", "undo()", "-2",
                "faults()", "2");
        Lived.leaves(Boards.NO_SHOTS, "-2", "mend()");
        Lived.leaves(StageEdgesTest.ALONE, "-2", "mend()");
        Lived.leaves("limits 0 0 0; scene 0; actor 0 0 0; actor 1 0 10; actor 2 5 0;"
                + "shot 10 0 0 1 5;", "-2", "mend()");
        Lived.leaves("limits 0 0 0; scene 0; actor 0 50 50; actor 1 60 50; actor 2 45 50;"
                + "actor 3 65 50; shot 40 50 0 1 5;", "-2", "mend()");
    }

    /** "the shot with the fewest faults after it is flipped, of several ... the lowest number". */
    private static void mendOrder() {
        String pair = "actor 0 50 50; actor 1 100 50;";
        ShotListPlanner x = Boards.loaded("limits 0 0 0; scene 0;" + pair
                + "shot 60 10 0 1 5; shot 71 90 0 1 5; shot 80 10 0 1 5;");
        Calls.rows("of the middle shot", x, "faults()", "2", "mend()", "1", "shot(0, 2)", "10",
                "shot(1, 1)", "79", "shot(1, 2)", "10", "shot(2, 2)", "10", "undo()", "0");
        ShotListPlanner y = Boards.loaded("limits 0 0 0; scene 0;" + pair
                + "shot 60 10 0 1 5; shot 71 90 0 1 5; scene 0;" + pair
                + "shot 60 10 0 1 5; shot 71 90 0 1 5;");
        Calls.rows("of the lowest numbers", y, "faults()", "2", "mend()", "2", "shot(0, 2)", "90",
                "shot(1, 2)", "90", "shot(2, 2)", "90", "shot(3, 2)", "90", "undo()", "0",
                "shot(0, 2)", "10", "shot(2, 2)", "10", "faults()", "2");
    }

    /** Promises 22 to 36: a shot or a setup just inside and just outside. */
    private static void argumentsOfQuestions() {
        String[] names = {"view", "side", "look", "visible", "eyeline", "faultsOf", "setupOf",
            "joinable"};
        String[] due = {"3455", "1", "-1", "37", "545", "0", "4", "8"};
        for (int i = 0; i < names.length; i++) {
            Calls.rows("of the last shot", Boards.loaded(TWO), names[i] + "(5)", due[i]);
            Lived.leaves(TWO, Calls.RANGE, names[i] + "(-1)", names[i] + "(6)",
                    names[i] + "(12)", names[i] + "(least)", names[i] + "(most)");
        }
        Lived.leaves(TWO, Calls.RANGE, "isNear(-1, 0)", "isNear(6, 0)", "isNear(0, -1)",
                "isNear(0, 6)", "isNear(most, most)", "faultsWith(-1, 9, 9)",
                "faultsWith(6, 9, 9)");
    }

    /** Promise 26: 0 to 2000, -2 and -3. */
    private static void eyeline() {
        ShotListPlanner x = Boards.loaded("limits 0 0 0; scene 0; actor 0 50 50; actor 1 100 50;"
                + "shot 150 50 0 1 5; shot 0 50 0 1 5; shot 50 99 0 1 5; shot 9 9 0 none 5;");
        Calls.rows("at both ends", x, "eyeline(0)", "0", "eyeline(1)", "2000", "eyeline(2)",
                "1000", "eyeline(3)", "-2", "moveActor(0, 1, 50, 50)", "0", "eyeline(0)", "-3",
                "eyeline(3)", "-2", "moveActor(0, 1, 50, 51)", "2", "eyeline(2)", "0");
    }

    /** Promise 31: "-2 if the subject is there", also if the camera stays. */
    private static void faultsWith() {
        Lived.leaves(TWO, "-2", "faultsWith(0, 50, 50)", "faultsWith(3, 100, 50)",
                "faultsWith(4, 10, 10)");
        Calls.rows("beside the subject", Boards.loaded(TWO), "faultsWith(0, 75, 10)", "3",
                "faultsWith(4, 11, 10)", "2", "faultsWith(4, 10, 11)", "2", "faultsWith(4, 40, 10)",
                "3", "faultsWith(4, 21, 10)", "3", "faultsWith(4, 20, 10)", "2");
    }

    /** Promise 32: scenes of 0, 1, 6 and 7 shots, and a place just behind the last. */
    private static void bestShot() {
        for (int shots : new int[] {0, 1, 2, 6}) {
            String text = ShotEdgesTest.shots(shots);
            for (int place = 0; place < shots; place++) {
                Calls.rows("of " + shots + " shots", Boards.loaded(text),
                        "bestShot(0, " + place + ")", String.valueOf(place));
            }
            Lived.leaves(text, Calls.NO_SUCH, "bestShot(0, " + shots + ")", "bestShot(0, most)");
            Lived.leaves(text, Calls.RANGE, "bestShot(0, -1)", "bestShot(0, least)",
                    "bestShot(1, 0)", "bestShot(-1, 0)");
        }
        for (int shots : new int[] {7, 12}) {
            Lived.leaves(ShotEdgesTest.shots(shots), "-2", "bestShot(0, 0)", "bestShot(0, 6)",
                    "bestShot(0, 12)", "bestShot(0, most)");
        }
    }

    /** Promises 33 to 35: each setup and each "what", just inside and just outside. */
    private static void setups() {
        Calls.rows("of two scenes", Boards.loaded(TWO), "setups()", "5", "setup(0, 0)", "0",
                "setup(0, 4)", "0", "setup(4, 0)", "5", "setup(4, 1)", "32", "setup(4, 4)", "1");
        Lived.leaves(TWO, Calls.RANGE, "setup(-1, 0)", "setup(5, 0)", "setup(0, -1)",
                "setup(0, 5)", "setup(5, 5)", "setup(most, 0)", "setup(0, least)");
    }

    /** Promise 36: "other than its own", and as join() would answer. */
    private static void joinable() {
        for (String text : new String[] {TWO, Boards.PAIR, ShotEdgesTest.MEET, FLIPS}) {
            ShotListPlanner x = Boards.loaded(text);
            for (int shot = 0; shot < x.count(1); shot++) {
                int due = 0;
                for (int setup = 0; setup < x.setups(); setup++) {
                    String call = "join(" + shot + ", " + setup + ")";
                    boolean joins = !Calls.answer(Boards.loaded(text), call).startsWith("-");
                    due |= joins && setup != x.setupOf(shot) ? 1 << setup : 0;
                }
                Calls.rows("of each join()", x, "joinable(" + shot + ")", String.valueOf(due));
            }
        }
    }

    /** Promise 37: "most" from 0 to 12, an answer of 0 and of 99, and "99 is not enough". */
    private static void leastReach() {
        String far = "limits 0 2000 0; scene 0; actor 0 0 0; shot 1 0 0 none 5;";
        Calls.rows("of 99 apart", Boards.loaded(far + "shot 100 0 0 none 5;"), "leastReach(12)",
                "0", "leastReach(2)", "0", "leastReach(1)", "99", "leastReach(0)", "-2");
        Calls.rows("of 98 apart", Boards.loaded(far + "shot 99 0 0 none 5;"), "leastReach(1)",
                "98");
        Calls.rows("of 1 apart", Boards.loaded(far + "shot 1 1 0 none 5;"), "leastReach(1)", "1");
        Calls.rows("of one place", Boards.loaded(far + "shot 1 0 0 none 5;"), "leastReach(1)", "0");
        Calls.rows("of 100 apart", Boards.loaded(far + "shot 101 0 0 none 5;"), "leastReach(1)",
                "-2", "leastReach(2)", "0");
        Lived.leaves(TWO, Calls.RANGE, "leastReach(-1)", "leastReach(13)", "leastReach(least)",
                "leastReach(most)");
        Lived.leaves(TWO, "-2", "leastReach(0)", "leastReach(4)");
    }

    /** Promise 38: "or NONE", and "(0 if they are the same)". */
    private static void change() {
        Calls.rows("of two scenes", Boards.loaded(TWO), "change(-1, 0)", "4", "change(-1, 4)", "6",
                "change(0, 0)", "0", "change(4, 4)", "0", "change(0, 4)", "21", "change(4, 0)",
                "19");
        Lived.leaves(TWO, Calls.RANGE, "change(-2, 0)", "change(5, 0)", "change(0, -1)",
                "change(0, 5)", "change(-1, -1)", "change(-1, 5)", "change(5, 5)",
                "change(most, 0)", "change(0, least)");
    }

    /** Promise 42: 1 to 9999 seconds, and sums that are just the limit. */
    private static void days() {
        String text = "limits 0 0 0; scene 0; actor 0 0 0; shot 1 9 0 none 5; shot 2 9 0 none 4;"
                + "shot 3 9 0 none 3; shot 4 9 0 none 1;";
        Calls.rows("of 5, 4, 3 and 1", Boards.loaded(text), "days(1)", "-2", "days(4)", "-2",
                "days(5)", "3", "days(7)", "3", "days(8)", "2", "days(9)", "2", "days(11)", "2",
                "days(12)", "2", "days(13)", "1", "days(9999)", "1");
        Lived.leaves(text, Calls.RANGE, "days(0)", "days(-1)", "days(10000)", "days(least)",
                "days(most)");
        Lived.leaves(text, "-2", "days(1)", "days(4)");
        Calls.rows("of one second", Boards.loaded(StageEdgesTest.ALONE), "days(1)", "1");
        Calls.rows("of the last setup", Boards.loaded(text), "setLength(3, 9)", "1", "days(8)",
                "-2", "days(9)", "3");
    }

    /** Promise 43: "the quotient, 1 or more; 0 if no setup has this actor." */
    private static void stay() {
        ShotListPlanner x = Boards.loaded("limits 0 0 0; scene 0; actor 0 10 10;"
                + "shot 20 10 0 none 1; scene 1; actor 5 10 10; shot 20 10 5 none 99; scene 2;"
                + "actor 0 10 10; shot 20 10 0 none 2;");
        Calls.rows("of a gap", x, "ordered(0)", "0", "ordered(1)", "1", "ordered(2)", "2",
                "stay(0)", "34.0", "stay(1)", "0.0", "stay(5)", "1.0", "setLength(1, 1)", "99",
                "stay(0)", String.valueOf(4.0 / 3.0), "drop(1)", "2", "stay(0)", "1.0", "stay(5)",
                "0.0");
        Lived.leaves(TWO, Calls.RANGE, "stay(-1)", "stay(6)", "stay(least)", "stay(most)");
    }

    /** Promise 44: "in place of the previous one", the empty plan, and its length. */
    private static void writePlan() {
        ShotListPlanner x = Boards.loaded(TWO);
        int length = x.writePlan();
        String first = Boards.planOf(x, length);
        Calls.rows("of a shorter plan", x, "drop(0)", "5", "writePlan()", "67");
        Checks.same("the shorter plan", "setup 0 0\nsetup 2 2\nsetup 1 1\nsetup 3 3\nsetup 4 4\n"
                + "shot 3 blocked 2\n", Boards.planOf(x, 67));
        Calls.rows("as before", x, "undo()", "0", "writePlan()", String.valueOf(length));
        Checks.same("the plan as before", first, Boards.planOf(x, length));
        Boards.put(x, Boards.NO_SHOTS);
        Calls.rows("without shots", x, "load()", "0", "planByte(0)", "115", "writePlan()", "0",
                "planByte(0)", Calls.NO_SUCH);
    }

    /** Promise 45: the first byte, the last one, and the one behind it. */
    private static void planByte() {
        ShotListPlanner x = Boards.loaded(StageEdgesTest.ALONE);
        Calls.rows("before a plan", x, "planByte(0)", Calls.NO_SUCH, "planByte(-1)", Calls.RANGE,
                "planByte(most)", Calls.NO_SUCH, "writePlan()", "10", "planByte(0)", "115",
                "planByte(8)", "48", "planByte(9)", "10", "planByte(10)", Calls.NO_SUCH,
                "planByte(most)", Calls.NO_SUCH, "planByte(-1)", Calls.RANGE, "planByte(least)",
                Calls.RANGE);
        Boards.put(x, Boards.NO_SHOTS);
        Calls.rows("behind load()", x, "load()", "0", "planByte(9)", "10", "planByte(10)",
                Calls.NO_SUCH, "setLight(0, 1)", "0", "undo()", "0", "planByte(9)", "10");
        Boards.put(x, "limits");
        Calls.rows("behind a wrong text", x, "load()", "-11", "planByte(9)", "10");
        Lived.leaves(TWO, Calls.NO_SUCH, "planByte(800)", "planByte(most)");
        Lived.leaves(TWO, Calls.RANGE, "planByte(-1)", "planByte(least)");
    }

    /** Promise 46: "-2 if there is no action to undo", and what undo() leaves as it is. */
    private static void undo() {
        Lived.leaves(() -> withBuffer(33), "-2", "undo()");
        ShotListPlanner x = Lived.with(TWO);
        String buffer = String.valueOf(Lived.bufferOf(x));
        int plan = x.writePlan();
        String before = Boards.planOf(x, plan);
        Calls.rows("of two actions", x, "undo()", "1", "scene(0, 0)", "2", "undo()", "0",
                "scene(0, 0)", "1", "undo()", "-2", "truncate(" + buffer + ")", buffer,
                "errorPosition()", "7", "planByte(" + plan + ")", Calls.NO_SUCH);
        Checks.same("the plan behind undo()", before, Boards.planOf(x, plan));
    }
}
