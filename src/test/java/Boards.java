/** Board texts, and the way into a planner for any text. */
final class Boards {
    /** Two scenes; what holds of them is told in the tests that use them. */
    static final String TWO_SCENES = "limits 10 200 500;"
            + "scene 1; actor 0 50 50; actor 1 100 50; actor 3 75 100;"
            + "shot 75 10 0 1 5;"
            + "shot 75 90 1 0 6;"
            + "shot 80 10 0 none 4;"
            + "shot 60 10 1 0 7;"
            + "scene 3; actor 0 10 10; actor 2 30 10; actor 5 20 10;"
            + "shot 40 10 0 2 8;"
            + "shot 5 40 2 0 9;";

    /** The first board of the given tests: an axis and an eyeline fault. */
    static final String PAIR = "limits 10 200 300;"
            + "scene 1; actor 0 50 50; actor 1 100 50;"
            + "shot 75 10 0 1 5; shot 75 90 1 0 5; shot 80 10 0 none 4;";

    /** A board without shots. */
    static final String NO_SHOTS = "limits 0 0 0; scene 0; actor 4 7 8;";

    private Boards() {
    }

    static ShotListPlanner loaded(String text) {
        ShotListPlanner planner = new ShotListPlanner();
        put(planner, text);
        int shots = planner.load();
        if (shots < 0) {
            throw new AssertionError("wrong at " + planner.errorPosition() + ": " + text);
        }
        return planner;
    }

    static void put(ShotListPlanner planner, String text) {
        for (int start = 0; start < text.length(); start += 20) {
            int length = planner.append(
                    four(text, start), four(text, start + 4), four(text, start + 8),
                    four(text, start + 12), four(text, start + 16));
            planner.truncate(length - Math.max(0, start + 20 - text.length()));
        }
    }

    static int four(String text, int start) {
        int bytes = 0;
        for (int i = start; i < start + 4; i++) {
            bytes = bytes << 8 | (i < text.length() ? text.charAt(i) & 255 : 0);
        }
        return bytes;
    }

    static String planOf(ShotListPlanner planner, int length) {
        StringBuilder plan = new StringBuilder();
        for (int i = 0; i < length; i++) {
            plan.append((char) planner.planByte(i));
        }
        return plan.toString();
    }

    /** The whole board of a planner, but for how many actions can be undone. */
    static String stateOf(ShotListPlanner planner) {
        StringBuilder state = new StringBuilder();
        for (int what = 0; what <= 5; what++) {
            state.append(planner.count(what)).append(' ');
        }
        for (int scene = 0; scene < planner.count(0); scene++) {
            state.append("scene ").append(planner.scene(scene, 0)).append(' ');
            for (int actor = 0; actor < 6; actor++) {
                if ((planner.scene(scene, 1) >> actor & 1) != 0) {
                    state.append(actor).append(':').append(planner.actor(scene, actor, false));
                    state.append(',').append(planner.actor(scene, actor, true)).append(' ');
                }
            }
        }
        for (int shot = 0; shot < planner.count(1); shot++) {
            state.append("shot ");
            for (int what = 0; what <= 5; what++) {
                state.append(planner.shot(shot, what)).append(' ');
            }
        }
        return state.toString();
    }
}
