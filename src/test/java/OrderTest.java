import java.util.ArrayList;
import java.util.List;
import java.util.NoSuchElementException;

/** Promises 38 to 43: change, plainCost, bestCost, ordered, days, stay. */
final class OrderTest {
    private static final Class<IllegalArgumentException> RANGE = IllegalArgumentException.class;
    /** Three setups: actor 0 is needed before and behind actor 1. */
    private static final String GAP = "limits 0 0 0;"
            + "scene 0; actor 0 10 10; shot 20 10 0 none 5;"
            + "scene 1; actor 1 10 10; shot 20 10 1 none 7;"
            + "scene 2; actor 0 10 10; shot 20 10 0 none 11;";

    private OrderTest() {
    }

    static void run() {
        freshBoards();
        ShotListPlanner planner = Boards.loaded(Boards.TWO_SCENES);
        changes(planner);
        costs(planner);
        days(planner);
        stays(planner);
        withoutShots();
        keptOrder();
        bestOfAllOrders();
        twelveSetups();
    }

    /** Each question must answer as the first one behind load(), too. */
    private static void freshBoards() {
        Checks.answers("plainCost() at once", 31,
                () -> Boards.loaded(Boards.TWO_SCENES).plainCost());
        Checks.answers("bestCost() at once", 27, () -> Boards.loaded(Boards.TWO_SCENES).bestCost());
        Checks.answers("change(0, 3) at once", 21,
                () -> Boards.loaded(Boards.TWO_SCENES).change(0, 3));
        Checks.answers("ordered(0) at once", 1, () -> Boards.loaded(Boards.TWO_SCENES).ordered(0));
        Checks.answers("days(17) at once", 3, () -> Boards.loaded(Boards.TWO_SCENES).days(17));
        Checks.answers("stay(0) at once", 23.0 / 16.0, () -> Boards.loaded(GAP).stay(0));
    }

    private static void changes(ShotListPlanner planner) {
        int[][] due = {{4, 2, 4, 6, 6}, {0, 2, 2, 21, 21}, {4, 0, 2, 23, 23}, {2, 0, 0, 23, 23},
            {19, 19, 21, 0, 0}, {19, 19, 21, 0, 0}};
        for (int i = 0; i < 30; i++) {
            int from = i / 5 - 1;
            int to = i % 5;
            Checks.answers("change(" + from + ", " + to + ")", due[from + 1][to],
                    () -> planner.change(from, to));
        }
        Checks.fails("change(-2, 0)", RANGE, () -> planner.change(-2, 0));
        Checks.fails("change(5, 0)", RANGE, () -> planner.change(5, 0));
        Checks.fails("change(0, -1)", RANGE, () -> planner.change(0, -1));
        Checks.fails("change(-1, -1)", RANGE, () -> planner.change(-1, -1));
        Checks.fails("change(0, 5)", RANGE, () -> planner.change(0, 5));
    }

    private static void costs(ShotListPlanner planner) {
        Checks.answers("plainCost()", 31, planner::plainCost);
        Checks.answers("bestCost()", 27, planner::bestCost);
        isOrder(planner, "two scenes", 1, 2, 0, 3, 4);
        Checks.fails("ordered(5)", NoSuchElementException.class, () -> planner.ordered(5));
        Checks.fails("ordered(most)", NoSuchElementException.class,
                () -> planner.ordered(Integer.MAX_VALUE));
        Checks.fails("ordered(-1)", RANGE, () -> planner.ordered(-1));
    }

    private static void isOrder(ShotListPlanner planner, String name, int... due) {
        for (int i = 0; i < due.length; i++) {
            int place = i;
            Checks.answers("ordered(" + i + ") of " + name, due[i], () -> planner.ordered(place));
        }
    }

    /** In the best order the lengths are 6, 7, 9, 8 and 9. */
    private static void days(ShotListPlanner planner) {
        int[][] due = {{1, -2}, {8, -2}, {9, 5}, {12, 5}, {13, 4}, {16, 4}, {17, 3}, {38, 2},
            {39, 1}, {9999, 1}};
        for (int[] row : due) {
            Checks.answers("days(" + row[0] + ")", row[1], () -> planner.days(row[0]));
        }
        Checks.fails("days(0)", RANGE, () -> planner.days(0));
        Checks.fails("days(10000)", RANGE, () -> planner.days(10000));
    }

    private static void stays(ShotListPlanner planner) {
        for (int i = 0; i < 6; i++) {
            int actor = i;
            Checks.answers("stay(" + i + ")", i == 4 ? 0.0 : 1.0, () -> planner.stay(actor));
        }
        Checks.fails("stay(-1)", RANGE, () -> planner.stay(-1));
        Checks.fails("stay(6)", RANGE, () -> planner.stay(6));
        ShotListPlanner gap = Boards.loaded(GAP);
        isOrder(gap, "a gap", 0, 1, 2);
        Checks.answers("bestCost() of a gap", 32, gap::bestCost);
        Checks.answers("stay(0) of a gap", 23.0 / 16.0, () -> gap.stay(0));
        Checks.answers("stay(1) of a gap", 1.0, () -> gap.stay(1));
        Checks.answers("stay(2) of a gap", 0.0, () -> gap.stay(2));
        staysOverGaps();
        gap.setLength(1, 10);
        Checks.answers("stay(0) of a longer gap", 26.0 / 16.0, () -> gap.stay(0));
    }

    /** In the best order the actors are 0, 1, 1, 2, 0 and 3. */
    private static void staysOverGaps() {
        ShotListPlanner planner = Boards.loaded("limits 0 0 0;"
                + "scene 0; actor 1 10 10; actor 0 10 30; shot 20 10 1 none 1; shot 20 30 0 none 2;"
                + "scene 1; actor 1 10 10; actor 2 10 30; shot 20 10 1 none 4; shot 20 30 2 none 8;"
                + "scene 2; actor 0 10 10; actor 3 10 30; shot 20 10 0 none 16;"
                + "shot 20 30 3 none 32;");
        isOrder(planner, "gaps", 1, 0, 2, 3, 4, 5);
        Checks.answers("stay(0) over gaps", 31.0 / 18.0, () -> planner.stay(0));
        Checks.answers("stay(1) over gaps", 1.0, () -> planner.stay(1));
        Checks.answers("stay(2) over gaps", 1.0, () -> planner.stay(2));
        planner.setCast(5, 0, -1);
        planner.moveActor(2, 0, 10, 31);
        Checks.answers("stay(0) with a third setup", 63.0 / 50.0, () -> planner.stay(0));
        planner.setLength(1, 1);
        Checks.answers("stay(0) with a short first setup", 62.0 / 49.0, () -> planner.stay(0));
    }

    private static void withoutShots() {
        ShotListPlanner empty = Boards.loaded(Boards.NO_SHOTS);
        Checks.answers("plainCost() without shots", 0, empty::plainCost);
        Checks.answers("bestCost() without shots", 0, empty::bestCost);
        Checks.answers("days(1) without shots", 0, () -> empty.days(1));
        Checks.answers("stay(4) without shots", 0.0, () -> empty.stay(4));
        Checks.fails("ordered(0) without shots", NoSuchElementException.class,
                () -> empty.ordered(0));
        Checks.fails("change(-1, 0) without shots", RANGE, () -> empty.change(-1, 0));
    }

    /** The order follows each action, load() and undo() at once. */
    private static void keptOrder() {
        ShotListPlanner planner = Boards.loaded(GAP);
        planner.bestCost();
        planner.setLight(2, 1);
        Checks.answers("bestCost() behind setLight()", 26, planner::bestCost);
        planner.undo();
        Checks.answers("bestCost() behind undo()", 32, planner::bestCost);
        planner.drop(1);
        Checks.answers("bestCost() behind drop()", 19, planner::bestCost);
        planner.moveActor(1, 1, 21, 10);
        planner.setLimits(0, 0, 2000);
        planner.moveActor(0, 0, 9, 9);
        Checks.answers("bestCost() behind moveActor()", 19, planner::bestCost);
        Boards.put(planner, Boards.TWO_SCENES);
        planner.load();
        Checks.answers("bestCost() behind load()", 27, planner::bestCost);
    }

    /** Six setups in three scenes, whose best order is compared with all 720 ones. */
    private static void bestOfAllOrders() {
        ShotListPlanner planner = Boards.loaded("limits 0 0 300;"
                + "scene 2; actor 0 10 10; actor 1 40 10; actor 2 10 40; shot 20 20 0 none 3;"
                + "shot 21 20 1 none 4; shot 22 20 2 none 5;"
                + "scene 0; actor 3 10 10; actor 1 40 10; shot 30 30 3 none 6;"
                + "scene 3; actor 2 10 10; actor 0 40 10; shot 30 30 2 none 7;"
                + "shot 31 30 0 none 8;");
        Checks.answers("setups() of three scenes", 6, planner::setups);
        List<Integer> best = null;
        for (List<Integer> order : orders(new ArrayList<>(), 6)) {
            if (best == null || costOf(planner, order) < costOf(planner, best)) {
                best = order;
            }
        }
        Checks.answers("bestCost() of three scenes", costOf(planner, best), planner::bestCost);
        isOrder(planner, "three scenes", best.stream().mapToInt(Integer::intValue).toArray());
    }

    private static List<List<Integer>> orders(List<Integer> start, int size) {
        List<List<Integer>> orders = new ArrayList<>();
        if (start.size() == size) {
            orders.add(start);
        }
        for (int next = 0; next < size; next++) {
            if (!start.contains(next)) {
                List<Integer> longer = new ArrayList<>(start);
                longer.add(next);
                orders.addAll(orders(longer, size));
            }
        }
        return orders;
    }

    private static int costOf(ShotListPlanner planner, List<Integer> order) {
        int cost = 0;
        for (int i = 0; i < order.size(); i++) {
            cost += planner.change(i == 0 ? -1 : order.get(i - 1), order.get(i));
        }
        return cost;
    }

    /** Only the subjects are seen, so the shots of each actor belong together. */
    private static void twelveSetups() {
        StringBuilder text = new StringBuilder("limits 0 0 0; scene 0;");
        for (int actor = 0; actor < 6; actor++) {
            text.append("actor ").append(actor).append(" 100 ").append(10 * actor).append(';');
        }
        for (int shot = 0; shot < 12; shot++) {
            text.append("shot ").append(1 + shot).append(" 199 ").append(shot % 6)
                    .append(" none 1;");
        }
        ShotListPlanner planner = Boards.loaded(text.toString());
        Checks.answers("setups() of twelve shots", 12, planner::setups);
        Checks.answers("plainCost() of twelve shots", 24, planner::plainCost);
        Checks.answers("bestCost() of twelve shots", 12, planner::bestCost);
        isOrder(planner, "twelve shots", 0, 6, 1, 7, 2, 8, 3, 9, 4, 10, 5, 11);
        Checks.fails("ordered(12) of twelve shots", NoSuchElementException.class,
                () -> planner.ordered(12));
        Checks.answers("days(2) of twelve shots", 6, () -> planner.days(2));
        Checks.answers("setup(11, 1)", 1 << 11, () -> planner.setup(11, 1));
        int length = planner.writePlan();
        Checks.same("the plan of twelve shots", "setup 0 0\nsetup 6 6\nsetup 1 1\nsetup 7 7\n"
                + "setup 2 2\nsetup 8 8\nsetup 3 3\nsetup 9 9\nsetup 4 4\nsetup 10 10\n"
                + "setup 5 5\nsetup 11 11\n", Boards.planOf(planner, length));
    }
}
