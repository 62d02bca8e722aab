/** The way of a board from its text to its plan, as README.md shows it. */
final class Example {
    static final String[] KINDS = {"axis", "eyeline", "jump", "blocked"};
    static final String BOARD = "limits 10 200 300;\n"
            + "scene 1; actor 0 50 50; actor 1 100 50;\n"
            + "shot 75 10 0 1 5; shot 75 90 1 0 5; shot 80 10 0 none 4;\n";

    private Example() {
    }

    public static void main(String[] args) {
        ShotListPlanner planner = new ShotListPlanner();
        give(planner, "limits 10 200 300; scene 4;");
        tellLoad(planner);
        give(planner, BOARD);
        tellLoad(planner);

        tellFaults(planner);
        System.out.println(planner.setups() + " setups, the best order costs "
                + planner.bestCost());

        System.out.println("mend() flips " + planner.mend());
        tellFaults(planner);
        System.out.println("flip(2) answers " + planner.flip(2));
        try {
            planner.flip(3);
        } catch (IllegalArgumentException e) {
            System.out.println("flip(3) is out of its range");
        }
        tellPlan(planner);

        System.out.println("undo() leaves " + planner.undo());
        tellFaults(planner);
        System.out.println("undo() answers " + planner.undo());
    }

    /** Puts a text into the empty buffer: twenty bytes a call, then those too many cut off. */
    static void give(ShotListPlanner planner, String text) {
        for (int start = 0; start < text.length(); start += 20) {
            planner.append(four(text, start), four(text, start + 4), four(text, start + 8),
                    four(text, start + 12), four(text, start + 16));
        }
        planner.truncate(text.length());
    }

    /** Four bytes of the text, the most significant byte first; behind its end zeros. */
    static int four(String text, int start) {
        int bytes = 0;
        for (int i = start; i < start + 4; i++) {
            bytes = bytes << 8 | (i < text.length() ? text.charAt(i) : 0);
        }
        return bytes;
    }

    static void tellLoad(ShotListPlanner planner) {
        int shots = planner.load();
        if (shots < 0) {
            System.out.println("error " + (-10 - shots) + " at " + planner.errorPosition());
        } else {
            System.out.println(shots + " shots");
        }
    }

    static void tellFaults(ShotListPlanner planner) {
        System.out.println(planner.faults() + " faults");
        for (int index = 0; index < planner.faults(); index++) {
            System.out.println("  shot " + planner.fault(index, 0) + ": "
                    + KINDS[planner.fault(index, 1)] + " " + planner.fault(index, 2));
        }
    }

    static void tellPlan(ShotListPlanner planner) {
        int length = planner.writePlan();
        for (int index = 0; index < length; index++) {
            System.out.print((char) planner.planByte(index));
        }
    }
}
