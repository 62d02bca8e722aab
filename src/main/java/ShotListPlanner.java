import java.util.NoSuchElementException;

/**
 * Turns a storyboard into a shot list: scenes, shots, faults between shots, setups that shots
 * share, the best order of the setups, and a plan. All rows are made with the object, so that no
 * call makes any.
 */
public final class ShotListPlanner {
    public static final int NONE = -1;

    private static final int MOST_SCENES = 3;
    private static final int MOST_ACTORS = 6;
    private static final int MOST_SHOTS = 12;
    private static final int MOST_PERMUTED_SHOTS = 6;
    private static final int MOST_REMEMBERED = 10;
    private static final int MOST_TEXT = 800;
    private static final int BYTES_OF_AN_APPEND = 20;

    private static final int LAST_PLACE = 199;
    private static final int MOST_REACH = 99;
    private static final int MOST_TURN = 2000;
    private static final int MOST_LIGHT = 3;
    private static final int MOST_SECONDS = 99;
    private static final int MOST_SECONDS_OF_A_DAY = 9999;
    private static final int FULL_CIRCLE = 4000;

    private static final int AXIS = 0;
    private static final int EYELINE = 1;
    private static final int JUMP = 2;
    private static final int BLOCKED = 3;
    private static final int KINDS = 4;
    private static final int MOST_FAULTS = KINDS * MOST_SHOTS;

    private final int[] text = new int[MOST_TEXT];
    private int textLength;
    private int errorAt;
    private boolean hasBoard;
    private final Board board;
    private final Board draft;
    private final BoardReader reader;
    private final History history;
    private final SetupTable table;
    private boolean knowsSetups;
    private final Route setupRoute;
    private boolean knowsOrder;
    private final Route shotRoute;
    private final Plan plan;

    public ShotListPlanner() {
        errorAt = NONE;
        board = new Board();
        draft = new Board();
        reader = new BoardReader();
        history = new History();
        table = new SetupTable();
        setupRoute = new Route(MOST_SHOTS);
        shotRoute = new Route(MOST_PERMUTED_SHOTS);
        plan = new Plan();
    }

    // ---- the text

    public int append(int a, int b, int c, int d, int e) throws IllegalStateException {
        if (textLength + BYTES_OF_AN_APPEND > MOST_TEXT) {
            throw new IllegalStateException("the text would be too long");
        }
        putFourBytes(a);
        putFourBytes(b);
        putFourBytes(c);
        putFourBytes(d);
        putFourBytes(e);
        return textLength;
    }

    private void putFourBytes(int bytes) {
        for (int shift = 24; shift >= 0 && textLength < MOST_TEXT; shift -= 8) {
            text[textLength] = (bytes >>> shift) & 255;
            textLength++;
        }
    }

    public int truncate(int length) throws IllegalArgumentException {
        if (length < 0 || length > textLength) {
            throw new IllegalArgumentException("no such length");
        }
        textLength = length;
        return textLength;
    }

    public int load() {
        int error = reader.read(text, textLength, draft);
        textLength = 0;
        if (error != 0) {
            errorAt = reader.position();
            return -10 - error;
        }
        errorAt = NONE;
        board.copyFrom(draft);
        hasBoard = true;
        history.forgetAll();
        forgetAnswers();
        return board.shotCount;
    }

    public int errorPosition() {
        return errorAt;
    }

    // ---- the board

    public int count(int what) throws IllegalStateException, IllegalArgumentException {
        needBoard();
        needRange(what, 0, 5);
        switch (what) {
            case 0:
                return board.sceneCount;
            case 1:
                return board.shotCount;
            case 2:
                return board.reach;
            case 3:
                return board.turn;
            case 4:
                return board.field;
            default:
                return board.secondsOfAllShots();
        }
    }

    public int scene(int scene, int what) throws IllegalStateException, IllegalArgumentException {
        needBoard();
        needScene(scene);
        needRange(what, 0, 2);
        switch (what) {
            case 0:
                return board.scenes[scene].light;
            case 1:
                return board.scenes[scene].cast;
            default:
                return board.shotsOfScene(scene);
        }
    }

    public int actor(int scene, int actor, boolean isY)
            throws IllegalStateException, IllegalArgumentException {
        needBoard();
        needScene(scene);
        needActor(board.scenes[scene], actor);
        return isY ? board.scenes[scene].y[actor] : board.scenes[scene].x[actor];
    }

    public int shot(int shot, int what) throws IllegalStateException, IllegalArgumentException {
        needBoard();
        needShot(shot);
        needRange(what, 0, 5);
        Shot asked = board.shots[shot];
        switch (what) {
            case 0:
                return asked.scene;
            case 1:
                return asked.x;
            case 2:
                return asked.y;
            case 3:
                return asked.subject;
            case 4:
                return asked.partner;
            default:
                return asked.seconds;
        }
    }

    // ---- actions

    public int setLimits(int reach, int turn, int field)
            throws IllegalStateException, IllegalArgumentException {
        needBoard();
        needRange(reach, 0, MOST_REACH);
        needRange(turn, 0, MOST_TURN);
        needRange(field, 0, MOST_TURN);
        beginAction();
        board.reach = reach;
        board.turn = turn;
        board.field = field;
        settleSetups();
        return table.size;
    }

    public int setLight(int scene, int light)
            throws IllegalStateException, IllegalArgumentException {
        needBoard();
        needScene(scene);
        needRange(light, 0, MOST_LIGHT);
        int former = board.scenes[scene].light;
        beginAction();
        board.scenes[scene].light = light;
        return former;
    }

    public int moveActor(int scene, int actor, int x, int y)
            throws IllegalStateException, IllegalArgumentException {
        needBoard();
        needScene(scene);
        needActor(board.scenes[scene], actor);
        needPlace(x, y);
        if (board.hasCameraOn(scene, actor, x, y)) {
            return -2;
        }
        beginAction();
        board.scenes[scene].x[actor] = x;
        board.scenes[scene].y[actor] = y;
        return Faults.total(board);
    }

    public int moveCamera(int shot, int x, int y)
            throws IllegalStateException, IllegalArgumentException {
        needBoard();
        needShot(shot);
        needPlace(x, y);
        Shot moved = board.shots[shot];
        if (board.isSubjectAt(moved, x, y)) {
            return -2;
        }
        beginAction();
        moved.placeCamera(x, y);
        return Faults.total(board);
    }

    public int setCast(int shot, int subject, int partner)
            throws IllegalStateException, IllegalArgumentException {
        needBoard();
        needShot(shot);
        Shot changed = board.shots[shot];
        Scene scene = board.scenes[changed.scene];
        needActor(scene, subject);
        if (partner != NONE) {
            needActor(scene, partner);
        }
        if (subject == partner) {
            return -2;
        }
        if (scene.isActorAt(subject, changed.x, changed.y)) {
            return -3;
        }
        beginAction();
        changed.subject = subject;
        changed.partner = partner;
        return Faults.total(board);
    }

    public int setLength(int shot, int seconds)
            throws IllegalStateException, IllegalArgumentException {
        needBoard();
        needShot(shot);
        needRange(seconds, 1, MOST_SECONDS);
        int former = board.shots[shot].seconds;
        beginAction();
        board.shots[shot].seconds = seconds;
        return former;
    }

    public int shift(int shot, int number) throws IllegalStateException, IllegalArgumentException {
        needBoard();
        needShot(shot);
        needShot(number);
        if (board.shots[shot].scene != board.shots[number].scene) {
            return -2;
        }
        beginAction();
        board.renumber(shot, number);
        return Faults.total(board);
    }

    public int drop(int shot) throws IllegalStateException, IllegalArgumentException {
        needBoard();
        needShot(shot);
        beginAction();
        board.renumber(shot, board.shotCount - 1);
        board.shotCount--;
        return board.shotCount;
    }

    public int flip(int shot) throws IllegalStateException, IllegalArgumentException {
        needBoard();
        needShot(shot);
        int obstacle = obstacleToFlip(board.shots[shot]);
        if (obstacle != 0) {
            return obstacle;
        }
        beginAction();
        turnOver(board.shots[shot]);
        return Faults.total(board);
    }

    public int join(int shot, int setup) throws IllegalStateException, IllegalArgumentException {
        needBoard();
        needShot(shot);
        needSetup(setup);
        int answer = answerOfJoin(board.shots[shot], setup);
        if (answer >= 0) {
            Shot first = board.shots[table.first[setup]];
            beginAction();
            board.shots[shot].placeCamera(first.x, first.y);
        }
        return answer;
    }

    public int mend() throws IllegalStateException {
        needBoard();
        int shot = bestFlip();
        if (shot == NONE) {
            return -2;
        }
        beginAction();
        int flips = 0;
        // Each flip takes away a fault at least, so there are no more flips than faults.
        while (shot != NONE && flips < MOST_FAULTS) {
            turnOver(board.shots[shot]);
            flips++;
            shot = bestFlip();
        }
        return flips;
    }

    // ---- what a camera sees

    public int direction(int x, int y) throws IllegalStateException, IllegalArgumentException {
        needBoard();
        needRange(x, -LAST_PLACE, LAST_PLACE);
        needRange(y, -LAST_PLACE, LAST_PLACE);
        return directionNumber(x, y);
    }

    public int view(int shot) throws IllegalStateException, IllegalArgumentException {
        needBoard();
        needShot(shot);
        return Sight.viewOf(board, board.shots[shot]);
    }

    public int side(int shot) throws IllegalStateException, IllegalArgumentException {
        needBoard();
        needShot(shot);
        return Sight.sideOf(board, board.shots[shot]);
    }

    public int look(int shot) throws IllegalStateException, IllegalArgumentException {
        needBoard();
        needShot(shot);
        return Sight.lookOf(board, board.shots[shot]);
    }

    public int visible(int shot) throws IllegalStateException, IllegalArgumentException {
        needBoard();
        needShot(shot);
        return Sight.seenBy(board, board.shots[shot]);
    }

    public int eyeline(int shot) throws IllegalStateException, IllegalArgumentException {
        needBoard();
        needShot(shot);
        return Sight.eyelineOf(board, board.shots[shot]);
    }

    public boolean isNear(int shot, int other)
            throws IllegalStateException, IllegalArgumentException {
        needBoard();
        needShot(shot);
        needShot(other);
        return Sight.areNear(board, board.shots[shot], board.shots[other], board.reach);
    }

    // ---- faults

    public int faults() throws IllegalStateException {
        needBoard();
        return Faults.total(board);
    }

    public int fault(int index, int what)
            throws IllegalStateException, IllegalArgumentException, NoSuchElementException {
        needBoard();
        needRange(what, 0, 2);
        if (index < 0) {
            throw new IllegalArgumentException("a negative index");
        }
        int left = index;
        for (int shot = 0; shot < board.shotCount; shot++) {
            int kinds = Faults.kindsOf(board, shot);
            for (int kind = 0; kind < KINDS; kind++) {
                if (!holds(kinds, kind)) {
                    continue;
                }
                if (left == 0) {
                    return propertyOfFault(shot, kind, what);
                }
                left--;
            }
        }
        throw new NoSuchElementException("no such fault");
    }

    private int propertyOfFault(int shot, int kind, int what) {
        if (what == 0) {
            return shot;
        }
        return what == 1 ? kind : Faults.causeOf(board, shot, kind);
    }

    public int faultsOf(int shot) throws IllegalStateException, IllegalArgumentException {
        needBoard();
        needShot(shot);
        return Faults.kindsOf(board, shot);
    }

    public int faultsWith(int shot, int x, int y)
            throws IllegalStateException, IllegalArgumentException {
        needBoard();
        needShot(shot);
        needPlace(x, y);
        if (board.isSubjectAt(board.shots[shot], x, y)) {
            return -2;
        }
        return Faults.totalWith(board, board.shots[shot], x, y);
    }

    public int bestShot(int scene, int place)
            throws IllegalStateException, IllegalArgumentException, NoSuchElementException {
        needBoard();
        needScene(scene);
        if (place < 0) {
            throw new IllegalArgumentException("a negative place");
        }
        int shots = board.shotsOfScene(scene);
        if (shots > MOST_PERMUTED_SHOTS) {
            return -2;
        }
        if (place >= shots) {
            throw new NoSuchElementException("no such place");
        }
        int first = board.firstShotOfScene(scene);
        findShotOrder(first, shots);
        return first + shotRoute.order[place];
    }

    // ---- setups

    public int setups() throws IllegalStateException {
        needBoard();
        settleSetups();
        return table.size;
    }

    public int setupOf(int shot) throws IllegalStateException, IllegalArgumentException {
        needBoard();
        needShot(shot);
        settleSetups();
        return table.homeOfShot[shot];
    }

    public int setup(int setup, int what) throws IllegalStateException, IllegalArgumentException {
        needBoard();
        needSetup(setup);
        needRange(what, 0, 4);
        switch (what) {
            case 0:
                return table.first[setup];
            case 1:
                return table.shots[setup];
            case 2:
                return table.actors[setup];
            case 3:
                return table.seconds[setup];
            default:
                return table.scene[setup];
        }
    }

    public int joinable(int shot) throws IllegalStateException, IllegalArgumentException {
        needBoard();
        needShot(shot);
        settleSetups();
        int joined = 0;
        for (int setup = 0; setup < table.size; setup++) {
            boolean isOther = setup != table.homeOfShot[shot];
            if (isOther && answerOfJoin(board.shots[shot], setup) >= 0) {
                joined |= 1 << setup;
            }
        }
        return joined;
    }

    public int leastReach(int most) throws IllegalStateException, IllegalArgumentException {
        needBoard();
        needRange(most, 0, MOST_SHOTS);
        for (int reach = 0; reach <= MOST_REACH; reach++) {
            if (table.sizeWithReach(board, reach) <= most) {
                return reach;
            }
        }
        return -2;
    }

    // ---- orders and days

    public int change(int from, int to) throws IllegalStateException, IllegalArgumentException {
        needBoard();
        if (from != NONE) {
            needSetup(from);
        }
        needSetup(to);
        return from == NONE ? table.costOfStart(to) : table.costOfChange(from, to);
    }

    public int plainCost() throws IllegalStateException {
        needBoard();
        settleSetups();
        int cost = 0;
        for (int setup = 0; setup < table.size; setup++) {
            cost += setup == 0 ? table.costOfStart(setup) : table.costOfChange(setup - 1, setup);
        }
        return cost;
    }

    public int bestCost() throws IllegalStateException {
        needBoard();
        settleOrder();
        return setupRoute.cost;
    }

    public int ordered(int place)
            throws IllegalStateException, IllegalArgumentException, NoSuchElementException {
        needBoard();
        if (place < 0) {
            throw new IllegalArgumentException("a negative place");
        }
        settleOrder();
        if (place >= table.size) {
            throw new NoSuchElementException("no such place");
        }
        return setupRoute.order[place];
    }

    public int days(int limit) throws IllegalStateException, IllegalArgumentException {
        needBoard();
        needRange(limit, 1, MOST_SECONDS_OF_A_DAY);
        settleOrder();
        int begun = 0;
        int used = 0;
        for (int place = 0; place < table.size; place++) {
            int seconds = table.seconds[setupRoute.order[place]];
            if (seconds > limit) {
                return -2;
            }
            if (begun == 0 || used + seconds > limit) {
                begun++;
                used = 0;
            }
            used += seconds;
        }
        return begun;
    }

    public double stay(int actor) throws IllegalStateException, IllegalArgumentException {
        needBoard();
        needRange(actor, 0, MOST_ACTORS - 1);
        settleOrder();
        int atWork = 0;
        int present = 0;
        int waiting = 0;
        for (int place = 0; place < table.size; place++) {
            int setup = setupRoute.order[place];
            if (holds(table.actors[setup], actor)) {
                atWork += table.seconds[setup];
                present += waiting + table.seconds[setup];
                waiting = 0;
            } else if (atWork > 0) {
                waiting += table.seconds[setup];
            }
        }
        return atWork == 0 ? 0.0 : (double) present / (double) atWork;
    }

    // ---- plan

    public int writePlan() throws IllegalStateException {
        needBoard();
        settleOrder();
        plan.erase();
        for (int place = 0; place < table.size; place++) {
            writeSetupLine(setupRoute.order[place]);
        }
        for (int shot = 0; shot < board.shotCount; shot++) {
            writeFaultLines(shot);
        }
        return plan.length;
    }

    private void writeSetupLine(int setup) {
        plan.putWord("setup ");
        plan.putNumber(setup);
        for (int shot = 0; shot < board.shotCount; shot++) {
            if (holds(table.shots[setup], shot)) {
                plan.putWord(" ");
                plan.putNumber(shot);
            }
        }
        plan.putWord("\n");
    }

    private void writeFaultLines(int shot) {
        int kinds = Faults.kindsOf(board, shot);
        for (int kind = 0; kind < KINDS; kind++) {
            if (holds(kinds, kind)) {
                plan.putWord("shot ");
                plan.putNumber(shot);
                plan.putWord(wordOfKind(kind));
                plan.putNumber(Faults.causeOf(board, shot, kind));
                plan.putWord("\n");
            }
        }
    }

    private static String wordOfKind(int kind) {
        switch (kind) {
            case AXIS:
                return " axis ";
            case EYELINE:
                return " eyeline ";
            case JUMP:
                return " jump ";
            default:
                return " blocked ";
        }
    }

    public int planByte(int index)
            throws IllegalStateException, IllegalArgumentException, NoSuchElementException {
        needBoard();
        if (index < 0) {
            throw new IllegalArgumentException("a negative index");
        }
        if (index >= plan.length) {
            throw new NoSuchElementException("no such byte");
        }
        return plan.bytes[index];
    }

    public int undo() throws IllegalStateException {
        needBoard();
        if (history.held == 0) {
            return -2;
        }
        history.recall(board);
        forgetAnswers();
        return history.held;
    }

    // ---- what the calls need

    private void needBoard() {
        if (!hasBoard) {
            throw new IllegalStateException("no board was loaded");
        }
    }

    private static void needRange(int value, int least, int most) {
        if (value < least || value > most) {
            throw new IllegalArgumentException("an argument is out of its range");
        }
    }

    private static void needPlace(int x, int y) {
        needRange(x, 0, LAST_PLACE);
        needRange(y, 0, LAST_PLACE);
    }

    private void needScene(int scene) {
        needRange(scene, 0, board.sceneCount - 1);
    }

    private void needShot(int shot) {
        needRange(shot, 0, board.shotCount - 1);
    }

    private void needSetup(int setup) {
        settleSetups();
        needRange(setup, 0, table.size - 1);
    }

    private static void needActor(Scene scene, int actor) {
        if (!scene.hasActor(actor)) {
            throw new IllegalArgumentException("the scene has no such actor");
        }
    }

    // ---- helpers of the calls

    private void beginAction() {
        history.remember(board);
        forgetAnswers();
    }

    private void forgetAnswers() {
        knowsSetups = false;
        knowsOrder = false;
    }

    private void settleSetups() {
        if (!knowsSetups) {
            table.fill(board);
            knowsSetups = true;
        }
    }

    /** The order is dear to find, so it is kept until the board changes. */
    private void settleOrder() {
        settleSetups();
        if (knowsOrder) {
            return;
        }
        for (int to = 0; to < table.size; to++) {
            setupRoute.setStart(to, table.costOfStart(to));
            for (int from = 0; from < table.size; from++) {
                setupRoute.setStep(from, to, table.costOfChange(from, to));
            }
        }
        setupRoute.find(table.size);
        knowsOrder = true;
    }

    /** Blocked views stay the same in any order, so only faults between neighbours cost. */
    private void findShotOrder(int first, int shots) {
        for (int to = 0; to < shots; to++) {
            shotRoute.setStart(to, 0);
            Shot shot = board.shots[first + to];
            for (int from = 0; from < shots; from++) {
                int kinds = Faults.kindsBetween(board, board.shots[first + from], shot);
                shotRoute.setStep(from, to, Integer.bitCount(kinds));
            }
        }
        shotRoute.find(shots);
    }

    /** The faults that the board has after a shot joined a setup, or the negative result. */
    private int answerOfJoin(Shot shot, int setup) {
        Shot first = board.shots[table.first[setup]];
        if (first.scene != shot.scene) {
            return -2;
        }
        if (board.isSubjectAt(shot, first.x, first.y)) {
            return -3;
        }
        int after = Faults.totalWith(board, shot, first.x, first.y);
        return after > Faults.total(board) ? -4 : after;
    }

    /** The negative result of a flip, or 0 if the shot can be flipped. */
    private int obstacleToFlip(Shot shot) {
        if (shot.partner == NONE) {
            return -2;
        }
        int x = board.oppositeX(shot);
        int y = board.oppositeY(shot);
        if (x < 0 || x > LAST_PLACE || y < 0 || y > LAST_PLACE) {
            return -3;
        }
        return board.isSubjectAt(shot, x, y) ? -4 : 0;
    }

    private void turnOver(Shot shot) {
        shot.placeCamera(board.oppositeX(shot), board.oppositeY(shot));
    }

    /** The shot whose flip leaves the fewest faults, NONE if no flip leaves fewer than now. */
    private int bestFlip() {
        int fewest = Faults.total(board);
        int best = NONE;
        for (int number = 0; number < board.shotCount; number++) {
            Shot shot = board.shots[number];
            if (obstacleToFlip(shot) != 0) {
                continue;
            }
            int after = Faults.totalWith(board, shot, board.oppositeX(shot), board.oppositeY(shot));
            if (after < fewest) {
                fewest = after;
                best = number;
            }
        }
        return best;
    }

    // ---- numbers and sets

    private static boolean holds(int set, int member) {
        return (set >> member & 1) != 0;
    }

    private static int crossProduct(int x, int y, int u, int v) {
        return x * v - y * u;
    }

    private static int signOf(int number) {
        if (number == 0) {
            return 0;
        }
        return number > 0 ? 1 : -1;
    }

    /** The direction number of a vector; -2 for (0, 0), which has none. */
    private static int directionNumber(int x, int y) {
        int width = x < 0 ? -x : x;
        int height = y < 0 ? -y : y;
        if (width + height == 0) {
            return -2;
        }
        int t = 1000 * height / (width + height);
        if (x > 0 && y >= 0) {
            return t;
        }
        if (x <= 0 && y > 0) {
            return 2000 - t;
        }
        if (x < 0) {
            return 2000 + t;
        }
        return (FULL_CIRCLE - t) % FULL_CIRCLE;
    }

    private static int turnBetween(int direction, int other) {
        int difference = Math.abs(direction - other);
        return Math.min(difference, FULL_CIRCLE - difference);
    }

    // ---- what a board is made of

    private static final class Scene {
        int light;
        int cast;
        final int[] x = new int[MOST_ACTORS];
        final int[] y = new int[MOST_ACTORS];

        boolean hasActor(int actor) {
            return actor >= 0 && actor < MOST_ACTORS && holds(cast, actor);
        }

        boolean isActorAt(int actor, int placeX, int placeY) {
            return x[actor] == placeX && y[actor] == placeY;
        }

        void copyFrom(Scene other) {
            light = other.light;
            cast = other.cast;
            System.arraycopy(other.x, 0, x, 0, MOST_ACTORS);
            System.arraycopy(other.y, 0, y, 0, MOST_ACTORS);
        }
    }

    private static final class Shot {
        int scene;
        int x;
        int y;
        int subject;
        int partner;
        int seconds;

        void placeCamera(int placeX, int placeY) {
            x = placeX;
            y = placeY;
        }

        void copyFrom(Shot other) {
            scene = other.scene;
            x = other.x;
            y = other.y;
            subject = other.subject;
            partner = other.partner;
            seconds = other.seconds;
        }
    }

    private static final class Board {
        int reach;
        int turn;
        int field;
        int sceneCount;
        int shotCount;
        final Scene[] scenes = new Scene[MOST_SCENES];
        final Shot[] shots = new Shot[MOST_SHOTS];

        Board() {
            for (int scene = 0; scene < MOST_SCENES; scene++) {
                scenes[scene] = new Scene();
            }
            for (int shot = 0; shot < MOST_SHOTS; shot++) {
                shots[shot] = new Shot();
            }
        }

        void copyFrom(Board other) {
            reach = other.reach;
            turn = other.turn;
            field = other.field;
            sceneCount = other.sceneCount;
            shotCount = other.shotCount;
            for (int scene = 0; scene < MOST_SCENES; scene++) {
                scenes[scene].copyFrom(other.scenes[scene]);
            }
            for (int shot = 0; shot < MOST_SHOTS; shot++) {
                shots[shot].copyFrom(other.shots[shot]);
            }
        }

        int secondsOfAllShots() {
            int sum = 0;
            for (int shot = 0; shot < shotCount; shot++) {
                sum += shots[shot].seconds;
            }
            return sum;
        }

        int shotsOfScene(int scene) {
            int number = 0;
            for (int shot = 0; shot < shotCount; shot++) {
                if (shots[shot].scene == scene) {
                    number++;
                }
            }
            return number;
        }

        int firstShotOfScene(int scene) {
            int first = 0;
            while (first < shotCount && shots[first].scene < scene) {
                first++;
            }
            return first;
        }

        boolean isSubjectAt(Shot shot, int x, int y) {
            return scenes[shot.scene].isActorAt(shot.subject, x, y);
        }

        boolean hasCameraOn(int scene, int subject, int x, int y) {
            for (int number = 0; number < shotCount; number++) {
                Shot shot = shots[number];
                boolean isAbout = shot.scene == scene && shot.subject == subject;
                if (isAbout && shot.x == x && shot.y == y) {
                    return true;
                }
            }
            return false;
        }

        /** Only for shots with a partner. */
        int oppositeX(Shot shot) {
            int[] places = scenes[shot.scene].x;
            return places[shot.subject] + places[shot.partner] - shot.x;
        }

        /** Only for shots with a partner. */
        int oppositeY(Shot shot) {
            int[] places = scenes[shot.scene].y;
            return places[shot.subject] + places[shot.partner] - shot.y;
        }

        void renumber(int from, int to) {
            Shot moved = shots[from];
            for (int number = from; number < to; number++) {
                shots[number] = shots[number + 1];
            }
            for (int number = from; number > to; number--) {
                shots[number] = shots[number - 1];
            }
            shots[to] = moved;
        }
    }

    /** The boards before the latest actions, in a ring of rows that are used again. */
    private static final class History {
        private final Board[] boards = new Board[MOST_REMEMBERED];
        private int next;
        int held;

        History() {
            for (int place = 0; place < MOST_REMEMBERED; place++) {
                boards[place] = new Board();
            }
        }

        void forgetAll() {
            held = 0;
        }

        void remember(Board board) {
            boards[next].copyFrom(board);
            next = (next + 1) % MOST_REMEMBERED;
            held = Math.min(held + 1, MOST_REMEMBERED);
        }

        void recall(Board board) {
            next = (next + MOST_REMEMBERED - 1) % MOST_REMEMBERED;
            board.copyFrom(boards[next]);
            held--;
        }
    }

    /**
     * Reads a board text up to its first error. Every error stands at the token that is looked at,
     * and reading stops there, so the first error found is the one with the least position; of
     * several at one token the one with the least code is looked for first.
     */
    private static final class BoardReader {
        private static final int WRONG_TOKEN = 1;
        private static final int WRONG_NUMBER = 2;
        private static final int WRONG_ACTOR = 3;
        private static final int TOO_MANY = 4;

        private static final int END = 0;
        private static final int KEYWORD = 1;
        private static final int NUMBER = 2;
        private static final int SEMICOLON = 3;
        private static final int UNKNOWN = 4;
        private static final int MOST_DIGITS = 4;

        private int[] text = new int[0];
        private int length;
        private int start;
        private int end;
        private int token;
        private int number;
        private int error;

        int position() {
            return start;
        }

        /** Returns the code of the error, 0 if the text is correct. */
        int read(int[] bytes, int bytesLength, Board board) {
            text = bytes;
            length = bytesLength;
            end = 0;
            error = 0;
            board.sceneCount = 0;
            board.shotCount = 0;
            advance();
            readLimits(board);
            // A statement has a byte at least, so there are no more statements than bytes.
            for (int i = 0; i < length && error == 0 && token != END; i++) {
                readStatement(board);
            }
            if (!canSceneEnd(board)) {
                fail(WRONG_TOKEN);
            }
            return error;
        }

        private void readLimits(Board board) {
            if (!isKeyword("limits")) {
                fail(WRONG_TOKEN);
            }
            advance();
            board.reach = takeNumber(0, MOST_REACH);
            board.turn = takeNumber(0, MOST_TURN);
            board.field = takeNumber(0, MOST_TURN);
            takeSemicolon();
        }

        private void readStatement(Board board) {
            if (isKeyword("scene")) {
                readScene(board);
            } else if (isKeyword("actor")) {
                readActor(board);
            } else if (isKeyword("shot")) {
                readShot(board);
            } else {
                fail(WRONG_TOKEN);
            }
        }

        private void readScene(Board board) {
            if (board.sceneCount > 0 && !canSceneEnd(board)) {
                fail(WRONG_TOKEN);
            }
            if (board.sceneCount >= MOST_SCENES) {
                fail(TOO_MANY);
            }
            advance();
            int light = takeNumber(0, MOST_LIGHT);
            takeSemicolon();
            if (error == 0) {
                Scene scene = board.scenes[board.sceneCount];
                scene.light = light;
                scene.cast = 0;
                board.sceneCount++;
            }
        }

        private void readActor(Board board) {
            int last = board.sceneCount - 1;
            if (last < 0 || board.shotsOfScene(last) > 0) {
                fail(WRONG_TOKEN);
                return;
            }
            Scene scene = board.scenes[last];
            advance();
            int actor = seeNumber(0, MOST_ACTORS - 1);
            if (scene.hasActor(actor)) {
                fail(WRONG_ACTOR);
            }
            advance();
            int x = takeNumber(0, LAST_PLACE);
            int y = takeNumber(0, LAST_PLACE);
            takeSemicolon();
            if (error == 0) {
                scene.cast |= 1 << actor;
                scene.x[actor] = x;
                scene.y[actor] = y;
            }
        }

        private void readShot(Board board) {
            if (!canSceneEnd(board)) {
                fail(WRONG_TOKEN);
                return;
            }
            if (board.shotCount >= MOST_SHOTS) {
                fail(TOO_MANY);
                return;
            }
            Shot shot = board.shots[board.shotCount];
            shot.scene = board.sceneCount - 1;
            Scene scene = board.scenes[shot.scene];
            advance();
            shot.x = takeNumber(0, LAST_PLACE);
            shot.y = takeNumber(0, LAST_PLACE);
            readSubject(scene, shot);
            readPartner(scene, shot);
            shot.seconds = takeNumber(1, MOST_SECONDS);
            takeSemicolon();
            if (error == 0) {
                board.shotCount++;
            }
        }

        private void readSubject(Scene scene, Shot shot) {
            shot.subject = seeActorOf(scene);
            if (scene.isActorAt(shot.subject, shot.x, shot.y)) {
                fail(WRONG_ACTOR);
            }
            advance();
        }

        private void readPartner(Scene scene, Shot shot) {
            shot.partner = NONE;
            if (!isKeyword("none")) {
                shot.partner = seeActorOf(scene);
                if (shot.partner == shot.subject) {
                    fail(WRONG_ACTOR);
                }
            }
            advance();
        }

        private static boolean canSceneEnd(Board board) {
            int last = board.sceneCount - 1;
            return last >= 0 && board.scenes[last].cast != 0;
        }

        private int seeActorOf(Scene scene) {
            int actor = seeNumber(0, MOST_ACTORS - 1);
            if (!scene.hasActor(actor)) {
                fail(WRONG_NUMBER);
            }
            return actor;
        }

        /** The present token's number; behind an error some number of the range. */
        private int seeNumber(int least, int most) {
            if (token != NUMBER) {
                fail(WRONG_TOKEN);
            } else if (number < least || number > most) {
                fail(WRONG_NUMBER);
            }
            return error == 0 ? number : least;
        }

        private int takeNumber(int least, int most) {
            int taken = seeNumber(least, most);
            advance();
            return taken;
        }

        private void takeSemicolon() {
            if (token != SEMICOLON) {
                fail(WRONG_TOKEN);
            }
            advance();
        }

        private void fail(int code) {
            if (error == 0) {
                error = code;
            }
        }

        /** Goes on to the next token, but stays at an error. */
        private void advance() {
            if (error != 0) {
                return;
            }
            start = end;
            while (start < length && (text[start] == ' ' || text[start] == '\n')) {
                start++;
            }
            end = start;
            if (start >= length) {
                token = END;
            } else if (isDigit(text[start])) {
                scanNumber();
            } else if (isLetter(text[start])) {
                scanKeyword();
            } else {
                token = text[start] == ';' ? SEMICOLON : UNKNOWN;
                end = start + 1;
            }
        }

        private void scanNumber() {
            number = 0;
            while (end < length && isDigit(text[end])) {
                number = number * 10 + text[end] - '0';
                end++;
            }
            token = end - start > MOST_DIGITS ? UNKNOWN : NUMBER;
        }

        private void scanKeyword() {
            token = KEYWORD;
            while (end < length && isLetter(text[end])) {
                end++;
            }
        }

        private boolean isKeyword(String word) {
            if (token != KEYWORD || end - start != word.length()) {
                return false;
            }
            for (int i = 0; i < word.length(); i++) {
                if (text[start + i] != word.charAt(i)) {
                    return false;
                }
            }
            return true;
        }

        private static boolean isDigit(int sign) {
            return sign >= '0' && sign <= '9';
        }

        private static boolean isLetter(int sign) {
            return sign >= 'a' && sign <= 'z';
        }
    }

    /** What the cameras of a board see. */
    private static final class Sight {
        static int viewOf(Board board, Shot shot) {
            Scene scene = board.scenes[shot.scene];
            return directionNumber(
                    scene.x[shot.subject] - shot.x, scene.y[shot.subject] - shot.y);
        }

        static int sideOf(Board board, Shot shot) {
            if (shot.partner == NONE) {
                return 0;
            }
            Scene scene = board.scenes[shot.scene];
            int low = Math.min(shot.subject, shot.partner);
            int high = Math.max(shot.subject, shot.partner);
            return signOf(crossProduct(
                    scene.x[high] - scene.x[low], scene.y[high] - scene.y[low],
                    shot.x - scene.x[low], shot.y - scene.y[low]));
        }

        static int lookOf(Board board, Shot shot) {
            if (shot.partner == NONE) {
                return 0;
            }
            Scene scene = board.scenes[shot.scene];
            int subjectX = scene.x[shot.subject];
            int subjectY = scene.y[shot.subject];
            return signOf(crossProduct(
                    subjectX - shot.x, subjectY - shot.y,
                    scene.x[shot.partner] - subjectX, scene.y[shot.partner] - subjectY));
        }

        static int seenBy(Board board, Shot shot) {
            Scene scene = board.scenes[shot.scene];
            int view = viewOf(board, shot);
            int seen = 0;
            for (int actor = 0; actor < MOST_ACTORS; actor++) {
                if (!scene.hasActor(actor) || scene.isActorAt(actor, shot.x, shot.y)) {
                    continue;
                }
                int line = directionNumber(scene.x[actor] - shot.x, scene.y[actor] - shot.y);
                if (turnBetween(view, line) <= board.field) {
                    seen |= 1 << actor;
                }
            }
            return seen;
        }

        /** The turn between partner and camera as the subject sees them, or a negative result. */
        static int eyelineOf(Board board, Shot shot) {
            if (shot.partner == NONE) {
                return -2;
            }
            Scene scene = board.scenes[shot.scene];
            int x = scene.x[shot.subject];
            int y = scene.y[shot.subject];
            if (scene.isActorAt(shot.partner, x, y)) {
                return -3;
            }
            return turnBetween(
                    directionNumber(scene.x[shot.partner] - x, scene.y[shot.partner] - y),
                    directionNumber(shot.x - x, shot.y - y));
        }

        static boolean areNear(Board board, Shot shot, Shot other, int reach) {
            if (shot.scene != other.scene) {
                return false;
            }
            int distance = Math.abs(shot.x - other.x) + Math.abs(shot.y - other.y);
            if (distance > reach) {
                return false;
            }
            return turnBetween(viewOf(board, shot), viewOf(board, other)) <= board.turn;
        }

        /** The first actor who blocks the view of a shot, NONE if nobody does. */
        static int blockerOf(Board board, Shot shot) {
            Scene scene = board.scenes[shot.scene];
            int toSubjectX = scene.x[shot.subject] - shot.x;
            int toSubjectY = scene.y[shot.subject] - shot.y;
            int whole = toSubjectX * toSubjectX + toSubjectY * toSubjectY;
            for (int actor = 0; actor < MOST_ACTORS; actor++) {
                if (!scene.hasActor(actor)) {
                    continue;
                }
                int toActorX = scene.x[actor] - shot.x;
                int toActorY = scene.y[actor] - shot.y;
                // The share of the way is above 0 and below the whole only between both places,
                // so the subject, who is at the whole, needs no test of its own.
                int share = toActorX * toSubjectX + toActorY * toSubjectY;
                boolean isOnLine = crossProduct(toSubjectX, toSubjectY, toActorX, toActorY) == 0;
                if (isOnLine && share > 0 && share < whole) {
                    return actor;
                }
            }
            return NONE;
        }
    }

    private static final class Faults {
        static int total(Board board) {
            int sum = 0;
            for (int number = 0; number < board.shotCount; number++) {
                Shot shot = board.shots[number];
                if (Sight.blockerOf(board, shot) != NONE) {
                    sum++;
                }
                if (number > 0) {
                    sum += Integer.bitCount(kindsBetween(board, board.shots[number - 1], shot));
                }
            }
            return sum;
        }

        /** The faults that the board would have with the camera of a shot at a place. */
        static int totalWith(Board board, Shot shot, int x, int y) {
            int formerX = shot.x;
            int formerY = shot.y;
            shot.placeCamera(x, y);
            int sum = total(board);
            shot.placeCamera(formerX, formerY);
            return sum;
        }

        static int kindsOf(Board board, int number) {
            Shot shot = board.shots[number];
            int kinds = number > 0 ? kindsBetween(board, board.shots[number - 1], shot) : 0;
            return Sight.blockerOf(board, shot) != NONE ? kinds | 1 << BLOCKED : kinds;
        }

        /** Whom or what a fault of a shot is about: the shot before, or the blocking actor. */
        static int causeOf(Board board, int number, int kind) {
            return kind == BLOCKED ? Sight.blockerOf(board, board.shots[number]) : number - 1;
        }

        /** The kinds of the faults that a shot has because of the shot before it. */
        static int kindsBetween(Board board, Shot before, Shot shot) {
            if (before.scene != shot.scene) {
                return 0;
            }
            int kinds = 0;
            if (areSamePair(before, shot)
                    && Sight.sideOf(board, before) * Sight.sideOf(board, shot) < 0) {
                kinds |= 1 << AXIS;
            }
            if (areFacing(before, shot)
                    && Sight.lookOf(board, before) * Sight.lookOf(board, shot) > 0) {
                kinds |= 1 << EYELINE;
            }
            if (before.subject == shot.subject
                    && Sight.areNear(board, before, shot, board.reach)) {
                kinds |= 1 << JUMP;
            }
            return kinds;
        }

        private static boolean areSamePair(Shot one, Shot other) {
            boolean isSame = one.subject == other.subject && one.partner == other.partner;
            return one.partner != NONE && (isSame || areFacing(one, other));
        }

        /** A subject is never NONE, so both have partners if this holds. */
        private static boolean areFacing(Shot one, Shot other) {
            return one.subject == other.partner && one.partner == other.subject;
        }
    }

    private static final class SetupTable {
        int size;
        final int[] homeOfShot = new int[MOST_SHOTS];
        final int[] first = new int[MOST_SHOTS];
        final int[] shots = new int[MOST_SHOTS];
        final int[] actors = new int[MOST_SHOTS];
        final int[] seconds = new int[MOST_SHOTS];
        final int[] scene = new int[MOST_SHOTS];
        private final int[] light = new int[MOST_SHOTS];
        private final int[] trialHomes = new int[MOST_SHOTS];
        private final int[] trialFirst = new int[MOST_SHOTS];

        void fill(Board board) {
            size = group(board, board.reach, homeOfShot, first);
            for (int setup = 0; setup < size; setup++) {
                shots[setup] = 0;
                actors[setup] = 0;
                seconds[setup] = 0;
                scene[setup] = board.shots[first[setup]].scene;
                light[setup] = board.scenes[scene[setup]].light;
            }
            for (int number = 0; number < board.shotCount; number++) {
                Shot shot = board.shots[number];
                int home = homeOfShot[number];
                shots[home] |= 1 << number;
                actors[home] |= Sight.seenBy(board, shot);
                seconds[home] += shot.seconds;
            }
        }

        int sizeWithReach(Board board, int reach) {
            return group(board, reach, trialHomes, trialFirst);
        }

        /** Fills the setup of each shot and the first shot of each setup; returns their number. */
        private static int group(Board board, int reach, int[] homes, int[] firsts) {
            int made = 0;
            for (int number = 0; number < board.shotCount; number++) {
                Shot shot = board.shots[number];
                int home = 0;
                while (home < made
                        && !Sight.areNear(board, shot, board.shots[firsts[home]], reach)) {
                    home++;
                }
                if (home == made) {
                    firsts[made] = number;
                    made++;
                }
                homes[number] = home;
            }
            return made;
        }

        int costOfStart(int setup) {
            return 2 * Integer.bitCount(actors[setup]);
        }

        int costOfChange(int from, int to) {
            int way = scene[from] == scene[to] ? 0 : 9;
            int lights = 4 * Math.abs(light[from] - light[to]);
            return way + lights + 2 * Integer.bitCount(actors[to] & ~actors[from]);
        }
    }

    /**
     * Finds the cheapest order of some stops, of several the lexicographically least one: first
     * what is left to pay is found for each set of stops behind us and the latest of them, from the
     * full set down, then the order follows from its first stop on.
     */
    private static final class Route {
        private static final int FAR = 1000000;

        private final int most;
        private final int[] start;
        private final int[] step;
        private final int[] rest;
        final int[] order;
        int cost;
        private int size;

        Route(int mostStops) {
            most = mostStops;
            start = new int[mostStops];
            step = new int[mostStops * mostStops];
            rest = new int[(1 << mostStops) * mostStops];
            order = new int[mostStops];
        }

        void setStart(int stop, int price) {
            start[stop] = price;
        }

        void setStep(int from, int to, int price) {
            step[from * most + to] = price;
        }

        void find(int stops) {
            size = Math.min(stops, most);
            int all = (1 << size) - 1;
            for (int behind = all; behind > 0; behind--) {
                for (int latest = 0; latest < size; latest++) {
                    if (holds(behind, latest)) {
                        rest[behind * most + latest] =
                                behind == all ? 0 : leastRest(behind, latest);
                    }
                }
            }
            followBest();
        }

        private int leastRest(int behind, int latest) {
            int least = FAR;
            for (int next = 0; next < size; next++) {
                int with = behind | 1 << next;
                if (with != behind) {
                    int whole = step[latest * most + next] + rest[with * most + next];
                    if (whole < least) {
                        least = whole;
                    }
                }
            }
            return least;
        }

        private void followBest() {
            cost = 0;
            int behind = 0;
            int latest = NONE;
            for (int place = 0; place < size; place++) {
                int next = bestNext(behind, latest);
                cost += priceOf(latest, next);
                order[place] = next;
                behind |= 1 << next;
                latest = next;
            }
        }

        private int bestNext(int behind, int latest) {
            int best = 0;
            int least = FAR;
            for (int next = 0; next < size; next++) {
                if (holds(behind, next)) {
                    continue;
                }
                int whole = priceOf(latest, next) + rest[(behind | 1 << next) * most + next];
                if (whole < least) {
                    least = whole;
                    best = next;
                }
            }
            return best;
        }

        private int priceOf(int latest, int next) {
            return latest == NONE ? start[next] : step[latest * most + next];
        }
    }

    private static final class Plan {
        /** Twelve setups with twelve shots take 144 bytes, and each of 48 faults at most 19. */
        private static final int MOST_BYTES = 144 + MOST_FAULTS * 19;

        final int[] bytes = new int[MOST_BYTES];
        int length;

        void erase() {
            length = 0;
        }

        void putWord(String word) {
            for (int i = 0; i < word.length() && length < MOST_BYTES; i++) {
                bytes[length] = word.charAt(i);
                length++;
            }
        }

        /** For numbers from 0 to 99, which all of a plan are. */
        void putNumber(int number) {
            if (number >= 10) {
                putDigit(number / 10);
            }
            putDigit(number % 10);
        }

        private void putDigit(int digit) {
            if (length < MOST_BYTES) {
                bytes[length] = '0' + digit;
                length++;
            }
        }
    }
}
