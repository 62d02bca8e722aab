import java.lang.reflect.InvocationTargetException;
import java.lang.reflect.Method;
import java.util.ArrayList;
import java.util.Arrays;
import java.util.Comparator;
import java.util.List;
import java.util.Random;

/**
 * Runs of random calls on the program and on the model: every answer must be the same. The seeds
 * are fixed, so every run can be repeated.
 */
final class RandomRunsTest {
    private static final int CALLS = 512;

    private final Random random;
    private final ShotListPlanner planner = new ShotListPlanner();
    private final Model model = new Model();
    private final List<String> calls = new ArrayList<>();
    private final List<Method> methods = new ArrayList<>();
    /** Small stages make views blocked, cameras near and actors meet. */
    private final int stage;

    private RandomRunsTest(int seed) {
        random = new Random(seed);
        stage = seed % 3 == 0 ? 200 : 4 + random.nextInt(12);
        for (Method method : Model.class.getDeclaredMethods()) {
            if (java.lang.reflect.Modifier.isPublic(method.getModifiers())) {
                methods.add(method);
            }
        }
        methods.sort(Comparator.comparing(Method::getName));
    }

    static void run(int runs) {
        int wrong = 0;
        for (int seed = 0; seed < runs && wrong < 5; seed++) {
            if (!new RandomRunsTest(seed).agrees(seed)) {
                wrong++;
            }
        }
        Checks.same("the number of random runs with a wrong answer", 0, wrong);
    }

    public static void main(String[] args) {
        run(Integer.parseInt(args[0]));
        Checks.end();
    }

    private boolean agrees(int seed) {
        while (calls.size() < CALLS) {
            if (calls.isEmpty() && seed % 4 != 0 || random.nextInt(60) == 0) {
                if (!loads()) {
                    return false;
                }
            } else {
                Method method = methods.get(random.nextInt(methods.size()));
                boolean isText = List.of("append", "truncate", "load").contains(method.getName());
                if (!(isText && random.nextInt(10) > 0) && !same(method, argumentsOf(method))) {
                    return false;
                }
            }
        }
        return true;
    }

    private boolean loads() {
        String text = boardText();
        if (random.nextInt(3) == 0) {
            text = spoilt(text);
        }
        for (int start = 0; start < text.length() && start < 800; start += 20) {
            Object[] five = new Object[5];
            for (int i = 0; i < 5; i++) {
                five[i] = Boards.four(text, start + 4 * i);
            }
            if (!same("append", five)) {
                return false;
            }
        }
        int buffered = (Math.min(text.length(), 800) + 19) / 20 * 20;
        return same("truncate", Math.min(text.length(), buffered)) && same("load")
                && same("errorPosition");
    }

    private String boardText() {
        StringBuilder text = new StringBuilder("limits ");
        text.append(random.nextInt(random.nextBoolean() ? 100 : 8)).append(' ')
                .append(random.nextInt(2001)).append(' ').append(random.nextInt(2001)).append(';');
        int scenes = 1 + random.nextInt(3);
        int shots = random.nextInt(random.nextInt(4) == 0 ? 13 : 8);
        for (int scene = 0; scene < scenes; scene++) {
            List<Integer> cast = new ArrayList<>();
            text.append("scene ").append(random.nextInt(4)).append(';');
            int actors = 1 + random.nextInt(6);
            for (int i = 0; i < actors; i++) {
                int actor = random.nextInt(6);
                if (!cast.contains(actor)) {
                    cast.add(actor);
                    text.append("actor ").append(actor).append(' ').append(random.nextInt(stage))
                            .append(' ').append(random.nextInt(stage)).append(';');
                }
            }
            int here = scene == scenes - 1 ? shots : random.nextInt(shots + 1);
            shots -= here;
            for (int i = 0; i < here; i++) {
                appendShot(text, cast);
            }
        }
        return text.toString();
    }

    private void appendShot(StringBuilder text, List<Integer> cast) {
        int subject = cast.get(random.nextInt(cast.size()));
        int partner = cast.get(random.nextInt(cast.size()));
        text.append("shot ").append(random.nextInt(stage)).append(' ')
                .append(random.nextInt(stage)).append(' ').append(subject).append(' ')
                .append(partner == subject ? "none" : String.valueOf(partner)).append(' ')
                .append(1 + random.nextInt(99)).append(';');
    }

    /** The text with one part of it left out, doubled or replaced. */
    private String spoilt(String text) {
        String[] parts = text.split("(?<=[ ;])|(?=[ ;])");
        int at = random.nextInt(parts.length);
        String[] others = {"", parts[at] + " " + parts[at], ";", "none", "scene", "shot", "actor",
            "limits", "x", "00012", "0007", "200", "2001", "100", "6", "0", "\n", "A", ".", "12345",
            "\u00e9", "\u0000", parts[random.nextInt(parts.length)]};
        parts[at] = others[random.nextInt(others.length)];
        String spoilt = String.join("", parts);
        return random.nextInt(4) == 0 ? spoilt.substring(0, random.nextInt(spoilt.length() + 1))
                : spoilt;
    }

    private Object[] argumentsOf(Method method) {
        Object[] arguments = new Object[method.getParameterCount()];
        for (int i = 0; i < arguments.length; i++) {
            arguments[i] = method.getParameterTypes()[i] == boolean.class
                    ? (Object) random.nextBoolean() : argument(method.getName(), i);
        }
        return arguments;
    }

    private Integer argument(String name, int place) {
        if (random.nextInt(60) == 0) {
            int[] edges = {-200, -199, -2, 12, 13, 99, 100, 199, 200, 1999, 2000, 2001, 9999, 10000,
                Integer.MIN_VALUE, Integer.MAX_VALUE};
            return edges[random.nextInt(edges.length)];
        }
        boolean isPlace = place > 0 && List.of("moveCamera", "faultsWith").contains(name)
                || place > 1 && name.equals("moveActor");
        if (isPlace) {
            return random.nextInt(stage);
        }
        switch (name) {
            case "setLimits":
                return random.nextInt(place == 0 ? 100 : 2001);
            case "setLength":
                return random.nextInt(place == 0 ? 10 : 100);
            case "days":
                return random.nextInt(400);
            case "direction":
                return random.nextInt(2 * stage) - stage;
            case "planByte":
                return random.nextInt(100);
            default:
                return random.nextInt(random.nextBoolean() ? 4 : 9) - random.nextInt(2);
        }
    }

    private boolean same(String name, Object... arguments) {
        for (Method method : methods) {
            if (method.getName().equals(name)) {
                return same(method, arguments);
            }
        }
        throw new AssertionError(name);
    }

    private boolean same(Method method, Object[] arguments) {
        String due = answer(model, method, arguments);
        String got = answer(planner, method, arguments);
        calls.add(method.getName() + Arrays.toString(arguments) + " = " + due);
        if (!due.equals(got)) {
            calls.forEach(System.out::println);
            System.out.println("but the last call answered " + got);
            return false;
        }
        return true;
    }

    private static String answer(Object of, Method method, Object[] arguments) {
        try {
            Method own = of.getClass().getMethod(method.getName(), method.getParameterTypes());
            return String.valueOf(own.invoke(of, arguments));
        } catch (InvocationTargetException e) {
            return e.getCause().getClass().getName();
        } catch (ReflectiveOperationException e) {
            throw new AssertionError(e);
        }
    }
}
