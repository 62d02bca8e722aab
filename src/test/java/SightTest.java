/** Promises 21 to 27: direction, view, side, look, visible, eyeline, isNear. */
final class SightTest {
    private static final Class<IllegalArgumentException> RANGE = IllegalArgumentException.class;

    private SightTest() {
    }

    static void run() {
        ShotListPlanner planner = Boards.loaded(Boards.TWO_SCENES);
        directions(planner);
        ofShots("view", new int[] {1385, 3385, 1429, 500, 2000, 3455}, planner, planner::view);
        ofShots("side", new int[] {-1, 1, 0, -1, 0, 1}, planner, planner::side);
        ofShots("look", new int[] {-1, -1, 0, 1, 0, -1}, planner, planner::look);
        ofShots("visible", new int[] {9, 2, 9, 10, 37, 37}, planner, planner::visible);
        ofShots("eyeline", new int[] {615, 615, -2, 500, 0, 545}, planner, planner::eyeline);
        sidesByNumbers();
        samePlaces();
        fieldEdges();
        nearEdges();
    }

    interface OfShot {
        int ask(int shot);
    }

    private static void ofShots(String name, int[] due, ShotListPlanner planner, OfShot question) {
        for (int i = 0; i < due.length; i++) {
            int shot = i;
            Checks.answers(name + "(" + shot + ")", due[shot], () -> question.ask(shot));
        }
        Checks.fails(name + "(-1)", RANGE, () -> question.ask(-1));
        Checks.fails(name + "(6)", RANGE, () -> question.ask(6));
        Checks.fails(name + "(most)", RANGE, () -> question.ask(Integer.MAX_VALUE));
    }

    private static void directions(ShotListPlanner planner) {
        int[][] due = {{1, 0, 0}, {199, 0, 0}, {2, 1, 333}, {1, 1, 500}, {1, 2, 666}, {0, 1, 1000},
            {-1, 2, 1334}, {-1, 1, 1500}, {-2, 1, 1667}, {-1, 0, 2000}, {-2, -1, 2333},
            {-199, -199, 2500}, {-1, -2, 2666}, {0, -1, 3000}, {0, -199, 3000}, {1, -2, 3334},
            {199, -199, 3500}, {2, -1, 3667}, {199, -1, 3995}, {199, 1, 5}, {0, 0, -2}};
        for (int[] row : due) {
            Checks.answers("direction(" + row[0] + ", " + row[1] + ")", row[2],
                    () -> planner.direction(row[0], row[1]));
        }
        Checks.fails("direction(200, 0)", RANGE, () -> planner.direction(200, 0));
        Checks.fails("direction(-200, 0)", RANGE, () -> planner.direction(-200, 0));
        Checks.fails("direction(0, 200)", RANGE, () -> planner.direction(0, 200));
        Checks.fails("direction(0, -200)", RANGE, () -> planner.direction(0, -200));
    }

    /** The side goes by the actors' numbers, the look by subject and partner. */
    private static void sidesByNumbers() {
        ShotListPlanner planner = Boards.loaded(Boards.PAIR);
        planner.setCast(0, 1, 0);
        Checks.answers("side(0) with the cast exchanged", -1, () -> planner.side(0));
        Checks.answers("look(0) with the cast exchanged", 1, () -> planner.look(0));
        planner.moveActor(0, 0, 0, 0);
        planner.moveActor(0, 1, 1, 0);
        planner.moveCamera(0, 0, 1);
        Checks.answers("side(0) with a cross product of 1", 1, () -> planner.side(0));
        Checks.answers("look(0) with a cross product of -1", -1, () -> planner.look(0));
        planner.setCast(0, 1, -1);
        Checks.answers("side(0) without a partner", 0, () -> planner.side(0));
        Checks.answers("look(0) without a partner", 0, () -> planner.look(0));
    }

    private static void samePlaces() {
        ShotListPlanner planner = Boards.loaded(Boards.PAIR);
        planner.moveActor(0, 1, 50, 50);
        Checks.answers("side(0) of one place", 0, () -> planner.side(0));
        Checks.answers("look(0) of one place", 0, () -> planner.look(0));
        Checks.answers("eyeline(0) of one place", -3, () -> planner.eyeline(0));
        Checks.answers("eyeline(2) of one place", -2, () -> planner.eyeline(2));
        Checks.answers("visible(0) of one place", 3, () -> planner.visible(0));
    }

    private static void fieldEdges() {
        ShotListPlanner planner = Boards.loaded(Boards.TWO_SCENES);
        planner.setLimits(10, 200, 769);
        Checks.answers("visible(0) with F 769", 9, () -> planner.visible(0));
        planner.setLimits(10, 200, 770);
        Checks.answers("visible(0) with F 770", 11, () -> planner.visible(0));
        planner.setLimits(10, 200, 0);
        Checks.answers("visible(4) with F 0", 37, () -> planner.visible(4));
        planner.setLimits(10, 200, 2000);
        Checks.answers("visible(1) with F 2000", 11, () -> planner.visible(1));
        planner.moveActor(0, 1, 75, 10);
        Checks.answers("visible(0) of an actor at the camera", 9, () -> planner.visible(0));
        ShotListPlanner around = Boards.loaded("limits 0 0 10; scene 0; actor 0 199 101;"
                + "actor 1 199 99; shot 0 100 0 1 1;");
        Checks.answers("view(0) near 0", 5, () -> around.view(0));
        Checks.answers("visible(0) across 0", 3, () -> around.visible(0));
        around.setLimits(0, 0, 9);
        Checks.answers("visible(0) across 0 with F 9", 1, () -> around.visible(0));
    }

    private static void nearEdges() {
        ShotListPlanner planner = Boards.loaded(Boards.TWO_SCENES);
        Checks.answers("isNear(0, 0)", true, () -> planner.isNear(0, 0));
        Checks.answers("isNear(0, 2)", true, () -> planner.isNear(0, 2));
        Checks.answers("isNear(2, 0)", true, () -> planner.isNear(2, 0));
        Checks.answers("isNear(0, 1)", false, () -> planner.isNear(0, 1));
        planner.setLimits(5, 44, 0);
        Checks.answers("isNear(0, 2) at both edges", true, () -> planner.isNear(0, 2));
        planner.setLimits(4, 44, 0);
        Checks.answers("isNear(0, 2) beyond R", false, () -> planner.isNear(0, 2));
        planner.setLimits(5, 43, 0);
        Checks.answers("isNear(0, 2) beyond T", false, () -> planner.isNear(0, 2));
        planner.setLimits(99, 2000, 0);
        Checks.answers("isNear(0, 4) of two scenes", false, () -> planner.isNear(0, 4));
        Checks.answers("isNear(4, 5)", true, () -> planner.isNear(4, 5));
        planner.setLimits(0, 0, 0);
        Checks.answers("isNear(3, 3) with R 0, T 0", true, () -> planner.isNear(3, 3));
        Checks.fails("isNear(-1, 0)", RANGE, () -> planner.isNear(-1, 0));
        Checks.fails("isNear(6, 0)", RANGE, () -> planner.isNear(6, 0));
        Checks.fails("isNear(0, -1)", RANGE, () -> planner.isNear(0, -1));
        Checks.fails("isNear(0, 6)", RANGE, () -> planner.isNear(0, 6));
    }
}
