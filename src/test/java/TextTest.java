/** Promises 1 to 5: a new object, append, truncate, load, errorPosition. */
final class TextTest {
    private static final String START = "limits 1 2 3;";
    private static final String SCENE = "limits 1 2 3; scene 0; actor 1 5 5; actor 2 6 6;";
    private static final String SHOT = "shot 9 9 1 2 4;";

    private TextTest() {
    }

    static void run() {
        newObject();
        append();
        truncate();
        load();
        tokensThatCannotStand();
        numbersOutOfRange();
        wrongActors();
        tooMany();
        errorPosition();
    }

    private static void newObject() {
        ShotListPlanner planner = new ShotListPlanner();
        Checks.same("NONE", -1, ShotListPlanner.NONE);
        Checks.answers("errorPosition() of a new object", -1, planner::errorPosition);
        Checks.fails("truncate(1) of a new object", IllegalArgumentException.class,
                () -> planner.truncate(1));
        Checks.answers("truncate(0) of a new object", 0, () -> planner.truncate(0));
        withoutBoard(planner);
        Checks.answers("load() of a new object", -11, planner::load);
        withoutBoard(planner);
    }

    /** The state is looked at before the arguments, so wrong arguments change nothing here. */
    private static void withoutBoard(ShotListPlanner x) {
        Checks.Call[] calls = {() -> x.count(0), () -> x.count(9), () -> x.scene(0, 0),
            () -> x.scene(-1, 9), () -> x.actor(0, 0, true), () -> x.actor(9, 9, false),
            () -> x.shot(0, 0), () -> x.shot(-1, -1), () -> x.setLimits(0, 0, 0),
            () -> x.setLimits(-1, 0, 0), () -> x.setLight(0, 0), () -> x.setLight(0, 4),
            () -> x.moveActor(0, 0, 0, 0), () -> x.moveActor(0, 0, 0, 200),
            () -> x.moveCamera(0, 0, 0), () -> x.moveCamera(0, 200, 0),
            () -> x.setCast(0, 0, -1), () -> x.setCast(0, -1, 0), () -> x.setLength(0, 1),
            () -> x.setLength(0, 0), () -> x.shift(0, 0), () -> x.shift(-1, 0),
            () -> x.drop(0), () -> x.drop(-1), () -> x.flip(0), () -> x.flip(-1),
            () -> x.join(0, 0), () -> x.join(-1, -1), x::mend, () -> x.direction(1, 1),
            () -> x.direction(200, 0), () -> x.view(0), () -> x.view(-1), () -> x.side(0),
            () -> x.side(-1), () -> x.look(0), () -> x.look(-1), () -> x.visible(0),
            () -> x.visible(-1), () -> x.eyeline(0), () -> x.eyeline(-1),
            () -> x.isNear(0, 0), () -> x.isNear(-1, 0), x::faults, () -> x.fault(0, 0),
            () -> x.fault(-1, 3), () -> x.faultsOf(0), () -> x.faultsOf(-1),
            () -> x.faultsWith(0, 0, 0), () -> x.faultsWith(0, -1, 0), () -> x.bestShot(0, 0),
            () -> x.bestShot(-1, -1), x::setups, () -> x.setupOf(0), () -> x.setupOf(-1),
            () -> x.setup(0, 0), () -> x.setup(-1, 5), () -> x.joinable(0),
            () -> x.joinable(-1), () -> x.leastReach(0), () -> x.leastReach(13),
            () -> x.change(-1, 0), () -> x.change(-2, 0), x::plainCost, x::bestCost,
            () -> x.ordered(0), () -> x.ordered(-1), () -> x.days(1), () -> x.days(0),
            () -> x.stay(0), () -> x.stay(6), x::writePlan, () -> x.planByte(0),
            () -> x.planByte(-1), x::undo};
        for (int i = 0; i < calls.length; i++) {
            Checks.fails("call " + i + " without a board", IllegalStateException.class, calls[i]);
        }
    }

    private static void append() {
        ShotListPlanner planner = new ShotListPlanner();
        for (int length = 20; length <= 800; length += 20) {
            Checks.answers("append() to a length", length, () -> planner.append(0, 0, 0, 0, 0));
        }
        Checks.fails("append() above 800", IllegalStateException.class,
                () -> planner.append(1, 2, 3, 4, 5));
        Checks.answers("truncate(800) behind it", 800, () -> planner.truncate(800));
        planner.truncate(781);
        Checks.fails("append() from 781 on", IllegalStateException.class,
                () -> planner.append(1, 2, 3, 4, 5));
        Checks.fails("truncate(782) behind it", IllegalArgumentException.class,
                () -> planner.truncate(782));
        planner.truncate(780);
        Checks.answers("append() from 780 on", 800, () -> planner.append(1, 2, 3, 4, 5));
        mostSignificantByteFirst();
    }

    private static void mostSignificantByteFirst() {
        ShotListPlanner planner = new ShotListPlanner();
        planner.append(0x6c696d69, 0x74732030, 0x20302030, 0x3b736365, 0x6e652030);
        planner.append(0x3b616374, 0x6f722030, 0x20372038, 0x3bff8000, -1);
        planner.truncate(33);
        Checks.answers("load() of bytes written as numbers", 0, planner::load);
        Checks.answers("actor(0, 0, false)", 7, () -> planner.actor(0, 0, false));
        Checks.answers("actor(0, 0, true)", 8, () -> planner.actor(0, 0, true));
        planner.append(-1, 0, 0, 0, 0);
        planner.load();
        Checks.answers("errorPosition() of a byte 255", 0, planner::errorPosition);
    }

    private static void truncate() {
        ShotListPlanner planner = new ShotListPlanner();
        Boards.put(planner, START + "scene 0; actor 0 1 1;A");
        Checks.fails("truncate(-1)", IllegalArgumentException.class, () -> planner.truncate(-1));
        Checks.fails("truncate(36)", IllegalArgumentException.class, () -> planner.truncate(36));
        Checks.fails("truncate(most)", IllegalArgumentException.class,
                () -> planner.truncate(Integer.MAX_VALUE));
        Checks.answers("truncate(35)", 35, () -> planner.truncate(35));
        Checks.answers("truncate(34)", 34, () -> planner.truncate(34));
        Checks.fails("truncate(35) then", IllegalArgumentException.class,
                () -> planner.truncate(35));
        Checks.answers("load() of the rest", 0, planner::load);
        Checks.fails("truncate(1) behind load()", IllegalArgumentException.class,
                () -> planner.truncate(1));
    }

    private static void load() {
        right(2, Boards.TWO_SCENES.replace("shot 75 10 0 1 5;", "").replace("shot 75 90 1 0 6;", "")
                .replace("shot 80 10 0 none 4;", "").replace("shot 60 10 1 0 7;", ""));
        right(6, Boards.TWO_SCENES);
        right(0, Boards.NO_SHOTS);
        right(1, "limits0 0 0;scene0;actor0 1 1;shot5 5 0none 9;");
        right(1, " \n limits\n0099  2000 2000 ;\n scene 3 ; actor 5 199 0;actor 4 0 199;"
                + " shot 199 199 5 4 99;\n ");
        right(12, SCENE + SHOT.repeat(12));
        right(0, SCENE + "scene 1; actor 1 0 0; scene 3; actor 2 1 1;");
        right(0, "limits 0 0 0; scene 0; actor 0 1 1; actor 1 1 1; actor 2 1 1; actor 3 1 1;"
                + "actor 4 1 1; actor 5 1 1;");
        right(1, SCENE + "shot 5 5 2 1 1;");
        right(0, START + "scene 0; actor 0 1 1;" + " ".repeat(766));
        right(0, START + " ".repeat(766) + "scene 0; actor 0 1 1;");
        wrong(1, START + "scene 0; actor 0 1 1" + " ".repeat(767) + "^");
        wrong(1, START + "scene 0; actor 0 1 1; " + "^" + "s".repeat(765));
        wrong(1, START + "scene 0; actor 0 1 " + "^" + "1".repeat(768));
        cutOff();
        replacing();
    }

    /** What was truncated stands no longer behind the last token. */
    private static void cutOff() {
        String text = "limits 12 3 4;";
        for (int length = 0; length < text.length(); length++) {
            ShotListPlanner planner = new ShotListPlanner();
            Boards.put(planner, text);
            planner.truncate(length);
            Checks.answers("load() of the first " + length + " bytes", -11, planner::load);
            Checks.answers("errorPosition() of the first " + length + " bytes",
                    length > 0 && length < 6 ? 0 : length, planner::errorPosition);
        }
    }

    static void right(int shots, String text) {
        ShotListPlanner planner = new ShotListPlanner();
        Boards.put(planner, text);
        Checks.answers("load() of " + text, shots, planner::load);
        Checks.answers("errorPosition() behind it", -1, planner::errorPosition);
        Checks.answers("count(1) behind it", shots, () -> planner.count(1));
        Checks.answers("undo() behind it", -2, planner::undo);
    }

    private static void replacing() {
        ShotListPlanner planner = Boards.loaded(Boards.TWO_SCENES);
        String before = Boards.stateOf(planner);
        planner.setLight(0, 2);
        planner.setLight(0, 1);
        Boards.put(planner, "limits 1 1 1; scene 2; actor 0 1 1; scene 9;");
        Checks.answers("load() of a wrong text", -12, planner::load);
        Checks.same("the board behind it", before, Boards.stateOf(planner));
        Checks.answers("undo() behind it", 1, planner::undo);
        Checks.answers("load() of the emptied buffer", -11, planner::load);
        Checks.answers("errorPosition() of it", 0, planner::errorPosition);
        Boards.put(planner, Boards.NO_SHOTS);
        Checks.answers("load() of another board", 0, planner::load);
        Checks.answers("undo() behind it", -2, planner::undo);
        Checks.answers("count(0) behind it", 1, () -> planner.count(0));
        Checks.answers("scene(0, 1) behind it", 16, () -> planner.scene(0, 1));
        Checks.answers("setups() behind it", 0, planner::setups);
    }

    /** In a wrong text the sign ^ stands before the place of the error, and is left out. */
    static void wrong(int code, String marked) {
        String text = marked.replace("^", "");
        ShotListPlanner planner = new ShotListPlanner();
        Boards.put(planner, text);
        Checks.answers("load() of " + marked, -10 - code, planner::load);
        Checks.answers("errorPosition() of " + marked, marked.indexOf('^'), planner::errorPosition);
    }

    private static void tokensThatCannotStand() {
        String[] texts = {"^", "  \n^", "^scene 0;", "^;", "^7", "^limit 1 2 3;", "^limitss 1 2 3;",
            "^Limits 1 2 3;", "limits^", "limits ^; 1 2 3;", "limits 1 2 ^;", "limits 1 2 3^",
            "limits 1 2 3 ^4;", "limits 1 2 3 ^scene 0;", "limits 1 2 3^:", "limits 1 2 3^,;",
            "^simits 1 2 3;", START + "^ccene 0;", START + "^scenez 0;", START + "^scen 0;",
            START + "^", START + " \n ^",
            START + "^;", START + "^limits 1 2 3;", START + "^actor 0 1 1;", START + "^shot 1",
            START + "^none", START + "scene^", START + "scene ^;", START + "scene 0 ^1;",
            START + "scene 0;^", START + "scene 0; ^scene 0;", START + "scene 0; ^shot 1 1 0",
            START + "scene 0; actor ^none 1 1;", START + "scene 0; actor 0 1 ^;",
            START + "scene 0; actor 0 1 1^", START + "scene 0; actor 0 1 1 ^1;",
            SCENE + "^limits 1 2 3;", SCENE + "^1", SCENE + SHOT + "^actor 3 1 1;",
            SCENE + "scene 0;^", SCENE + "scene 1; ^shot 1 1 1 2 3;", SCENE + "shot ^none 1",
            SCENE + "shot 9 9 ^none 1 1;", SCENE + "shot 9 9 1 ^some 1;",
            SCENE + "shot 9 9 1 ^nonee 1;", SCENE + "shot 9 9 1 ^; 1", SCENE + "shot 9 9 1 2 ^;",
            SCENE + "shot 9 9 1 2 ^none;", SCENE + "shot 9 9 1 2 3^", SCENE + "shot 9 9 1 2 3 ^4;",
            "limits ^00001 2 3;", "limits ^12345", "limits 1 ^99999 3;", "limits 1 2 ^300000",
            SCENE + "shot 9 9 ^00001 2 3;", SCENE + "shot 9 9 1 ^00001 3;",
            START + "scene 0; actor ^00007 1 1;", "limits ^-1 2 3;", "limits 1^.5 2 3;",
            "limits^\t1 2 3;", "limits 1 2 3;^\r\n", "^\u00e9", "limits 1^\u0000", "limits^A1 2 3;",
            START + "^\u00ff", SCENE + "^{", SCENE + "^`", SCENE + "shot^/", SCENE + "shot^:"};
        for (String text : texts) {
            wrong(1, text);
        }
    }

    private static void numbersOutOfRange() {
        String[] texts = {"limits ^100 2 3;", "limits ^9999 2 3;", "limits 99 ^2001 3;",
            "limits 1 2000 ^2001;", START + "scene ^4;", START + "scene 0; actor ^6 1 1;",
            START + "scene 0; actor 5 ^200 1;", START + "scene 0; actor 5 199 ^200;",
            SCENE + "actor ^6 1 1;", SCENE + "shot ^200 9 1 2 3;", SCENE + "shot 9 ^200 1 2 3;",
            SCENE + "shot 9 9 ^0 2 3;", SCENE + "shot 9 9 ^3 2 3;", SCENE + "shot 9 9 ^6 2 3;",
            SCENE + "shot 9 9 1 ^0 3;", SCENE + "shot 9 9 1 ^5 3;", SCENE + "shot 9 9 1 ^6 3;",
            SCENE + "shot 9 9 1 2 ^0;", SCENE + "shot 9 9 1 2 ^100;",
            SCENE + "scene 0; actor 3 1 1; shot 9 9 ^1 3 3;",
            SCENE + "scene 0; actor 3 1 1; shot 9 9 3 ^1 3;", "limits 1 ^2001 3001; scene",
            "limits 0 0 0; scene 0; actor 0 1 1; actor 1 1 1; actor 2 1 1; actor 3 1 1;"
                + "actor 4 1 1; actor 5 1 1; actor ^6 1 1;"};
        for (String text : texts) {
            wrong(2, text);
        }
    }

    private static void wrongActors() {
        String[] texts = {SCENE + "actor ^1 7 7;", SCENE + "actor ^0002 7 7;",
            SCENE + "shot 9 9 1 ^1 3;", SCENE + "shot 9 9 2 ^02 3;", SCENE + "shot 5 5 ^1 2 3;",
            SCENE + "shot 6 6 ^2 none 3;", SCENE + "shot 5 5 ^1 1 0;",
            SCENE + "scene 0; actor 3 7 7; shot 7 7 ^3 none 1;",
            "limits 0 0 0; scene 0; actor 0 1 1; actor 1 1 1; actor 2 1 1; actor 3 1 1;"
                + "actor 4 1 1; actor 5 1 1; actor ^5 1 1;"};
        for (String text : texts) {
            wrong(3, text);
        }
    }

    private static void tooMany() {
        String three = SCENE + "scene 1; actor 1 5 5; scene 2; ";
        wrong(4, three + "actor 0 1 1; ^scene 3; actor 0 1 1;");
        wrong(4, three + "actor 0 1 1; shot 9 9 0 none 1; ^scene");
        wrong(1, three + "^scene 3;");
        wrong(4, SCENE + SHOT.repeat(12) + " ^shot 9 9 1 2 3;");
        wrong(4, SCENE + SHOT.repeat(12) + "scene 0; actor 0 1 1; ^shot");
        wrong(1, SCENE + SHOT.repeat(12) + "scene 0; ^shot 9 9 1 2 3;");
        wrong(1, SCENE + SHOT.repeat(12) + "^actor 3 1 1;");
    }

    private static void errorPosition() {
        ShotListPlanner planner = new ShotListPlanner();
        Boards.put(planner, "limits x");
        Checks.answers("errorPosition() before load()", -1, planner::errorPosition);
        planner.load();
        Checks.answers("errorPosition() behind a wrong text", 7, planner::errorPosition);
        Boards.put(planner, Boards.NO_SHOTS);
        Checks.answers("errorPosition() behind append()", 7, planner::errorPosition);
        planner.load();
        Checks.answers("errorPosition() behind a correct text", -1, planner::errorPosition);
    }
}
