import java.util.ArrayDeque;
import java.util.ArrayList;
import java.util.Deque;
import java.util.HashMap;
import java.util.List;
import java.util.Map;
import java.util.NoSuchElementException;
import java.util.TreeMap;
import java.util.TreeSet;

/**
 * The document said a second time, in another way than the program: nothing is kept but the state,
 * every trial is made on a copy. It is compared with the program.
 */
public final class Model {
    record Place(int x, int y) {
        int distance(Place other) {
            return Math.abs(x - other.x) + Math.abs(y - other.y);
        }
    }

    record Take(int scene, Place camera, int subject, int partner, int seconds) {
        Take at(Place place) {
            return new Take(scene, place, subject, partner, seconds);
        }
    }

    record Fault(int shot, int kind, int about) {
    }

    private static final class Wrong extends RuntimeException {
        private static final long serialVersionUID = 1;

        final int code;
        final int position;

        Wrong(int code, int position) {
            this.code = code;
            this.position = position;
        }
    }

    /** A board, with all that follows from it. */
    private static final class State {
        int reach;
        int turn;
        int field;
        final List<Integer> lights = new ArrayList<>();
        final List<TreeMap<Integer, Place>> casts = new ArrayList<>();
        final List<Take> takes = new ArrayList<>();
        /** Kept, since it is slow to find; copies do not take it over. */
        private Orders orders;

        State copy() {
            State copy = new State();
            copy.reach = reach;
            copy.turn = turn;
            copy.field = field;
            copy.lights.addAll(lights);
            for (TreeMap<Integer, Place> cast : casts) {
                copy.casts.add(new TreeMap<>(cast));
            }
            copy.takes.addAll(takes);
            return copy;
        }

        Place subject(Take take) {
            return casts.get(take.scene).get(take.subject);
        }

        Place partner(Take take) {
            return casts.get(take.scene).get(take.partner);
        }

        State withCamera(int shot, Place place) {
            State copy = copy();
            copy.takes.set(shot, takes.get(shot).at(place));
            return copy;
        }

        int view(Take take) {
            return number(take.camera, subject(take));
        }

        int side(Take take) {
            if (take.partner == -1) {
                return 0;
            }
            Place low = casts.get(take.scene).get(Math.min(take.subject, take.partner));
            Place high = casts.get(take.scene).get(Math.max(take.subject, take.partner));
            return Integer.signum(cross(low, high, low, take.camera));
        }

        int look(Take take) {
            if (take.partner == -1) {
                return 0;
            }
            return Integer.signum(cross(take.camera, subject(take), subject(take), partner(take)));
        }

        TreeSet<Integer> visible(Take take) {
            TreeSet<Integer> seen = new TreeSet<>();
            casts.get(take.scene).forEach((actor, place) -> {
                if (!place.equals(take.camera)
                        && turned(view(take), number(take.camera, place)) <= field) {
                    seen.add(actor);
                }
            });
            return seen;
        }

        boolean near(Take one, Take other) {
            return one.scene == other.scene && one.camera.distance(other.camera) <= reach
                    && turned(view(one), view(other)) <= turn;
        }

        List<Fault> faults() {
            List<Fault> faults = new ArrayList<>();
            for (int i = 0; i < takes.size(); i++) {
                Take take = takes.get(i);
                if (i > 0 && takes.get(i - 1).scene == take.scene) {
                    pairFaults(takes.get(i - 1), take, i, faults);
                }
                for (int actor : casts.get(take.scene).keySet()) {
                    if (actor != take.subject && isInTheWay(take, actor)) {
                        faults.add(new Fault(i, 3, actor));
                        break;
                    }
                }
            }
            return faults;
        }

        private void pairFaults(Take before, Take take, int i, List<Fault> faults) {
            boolean paired = before.partner != -1 && take.partner != -1;
            boolean facing = before.subject == take.partner && before.partner == take.subject;
            boolean same = before.subject == take.subject && before.partner == take.partner;
            if (paired && (facing || same) && side(before) != 0 && side(take) == -side(before)) {
                faults.add(new Fault(i, 0, i - 1));
            }
            if (paired && facing && look(before) != 0 && look(before) == look(take)) {
                faults.add(new Fault(i, 1, i - 1));
            }
            if (before.subject == take.subject && near(before, take)) {
                faults.add(new Fault(i, 2, i - 1));
            }
        }

        /** Walks from the camera to the subject through every place of the line between. */
        private boolean isInTheWay(Take take, int actor) {
            Place from = take.camera;
            Place to = subject(take);
            int wide = to.x - from.x;
            int high = to.y - from.y;
            int steps = gcd(Math.abs(wide), Math.abs(high));
            for (int k = 1; k < steps; k++) {
                Place between = new Place(from.x + wide / steps * k, from.y + high / steps * k);
                if (between.equals(casts.get(take.scene).get(actor))) {
                    return true;
                }
            }
            return false;
        }

        List<List<Integer>> setups() {
            List<List<Integer>> setups = new ArrayList<>();
            for (int i = 0; i < takes.size(); i++) {
                List<Integer> home = null;
                for (List<Integer> setup : setups) {
                    if (home == null && near(takes.get(i), takes.get(setup.get(0)))) {
                        home = setup;
                    }
                }
                if (home == null) {
                    home = new ArrayList<>();
                    setups.add(home);
                }
                home.add(i);
            }
            return setups;
        }

        TreeSet<Integer> actors(List<Integer> setup) {
            TreeSet<Integer> actors = new TreeSet<>();
            for (int shot : setup) {
                actors.addAll(visible(takes.get(shot)));
            }
            return actors;
        }

        int seconds(List<Integer> setup) {
            return setup.stream().mapToInt(shot -> takes.get(shot).seconds).sum();
        }

        int cost(List<Integer> from, List<Integer> to) {
            TreeSet<Integer> coming = actors(to);
            if (from == null) {
                return 2 * coming.size();
            }
            coming.removeAll(actors(from));
            int fromScene = takes.get(from.get(0)).scene;
            int toScene = takes.get(to.get(0)).scene;
            return (fromScene != toScene ? 9 : 0)
                    + 4 * Math.abs(lights.get(fromScene) - lights.get(toScene))
                    + 2 * coming.size();
        }
    }

    /** The best order of the setups; what a set of setups costs behind another one is kept. */
    private static final class Orders {
        final int least;
        final List<Integer> best = new ArrayList<>();
        private final int size;
        private final int[][] costs;
        private final Map<List<Integer>, Integer> known = new HashMap<>();

        Orders(State state) {
            List<List<Integer>> setups = state.setups();
            size = setups.size();
            costs = new int[size + 1][size];
            TreeSet<Integer> left = new TreeSet<>();
            for (int to = 0; to < size; to++) {
                left.add(to);
                costs[size][to] = state.cost(null, setups.get(to));
                for (int from = 0; from < size; from++) {
                    costs[from][to] = state.cost(setups.get(from), setups.get(to));
                }
            }
            least = least(left, size);
            int latest = size;
            while (!left.isEmpty()) {
                latest = first(left, latest);
                left.remove(latest);
                best.add(latest);
            }
        }

        private int first(TreeSet<Integer> left, int latest) {
            for (int next : left) {
                if (with(left, latest, next) == least(left, latest)) {
                    return next;
                }
            }
            throw new AssertionError();
        }

        private int with(TreeSet<Integer> left, int latest, int next) {
            TreeSet<Integer> rest = new TreeSet<>(left);
            rest.remove(next);
            return costs[latest][next] + least(rest, next);
        }

        private int least(TreeSet<Integer> left, int latest) {
            if (left.isEmpty()) {
                return 0;
            }
            List<Integer> key = List.of(set(left), latest);
            if (!known.containsKey(key)) {
                int cheapest = Integer.MAX_VALUE;
                for (int next : left) {
                    cheapest = Math.min(cheapest, with(left, latest, next));
                }
                known.put(key, cheapest);
            }
            return known.get(key);
        }
    }

    private State state = null;
    private final Deque<State> former = new ArrayDeque<>();
    private final StringBuilder text = new StringBuilder();
    private int errorAt = -1;
    private String plan = "";

    // ---- the text

    public int append(int a, int b, int c, int d, int e) {
        if (text.length() > 780) {
            throw new IllegalStateException();
        }
        for (int word : new int[] {a, b, c, d, e}) {
            text.append((char) (word >>> 24)).append((char) (word >> 16 & 255));
            text.append((char) (word >> 8 & 255)).append((char) (word & 255));
        }
        return text.length();
    }

    public int truncate(int length) {
        need(length >= 0 && length <= text.length());
        text.setLength(length);
        return length;
    }

    public int load() {
        String whole = text.toString();
        text.setLength(0);
        try {
            state = new Parser(whole).parse();
            former.clear();
            errorAt = -1;
            return state.takes.size();
        } catch (Wrong wrong) {
            errorAt = wrong.position;
            return -10 - wrong.code;
        }
    }

    public int errorPosition() {
        return errorAt;
    }

    private static final class Parser {
        private final String text;
        private final List<String> tokens = new ArrayList<>();
        private final List<Integer> positions = new ArrayList<>();
        private int at = 0;
        private final State read = new State();

        Parser(String text) {
            this.text = text;
            java.util.regex.Matcher matcher =
                    java.util.regex.Pattern.compile("[a-z]+|[0-9]+|[^ \\n]").matcher(text);
            while (matcher.find()) {
                tokens.add(matcher.group());
                positions.add(matcher.start());
            }
        }

        State parse() {
            keyword("limits");
            read.reach = number(99);
            read.turn = number(2000);
            read.field = number(2000);
            keyword(";");
            do {
                scene();
            } while (!next().isEmpty());
            return read;
        }

        private void scene() {
            if (!next().equals("scene")) {
                throw wrong(1);
            }
            if (read.lights.size() == 3) {
                throw wrong(4);
            }
            at++;
            read.lights.add(number(3));
            keyword(";");
            TreeMap<Integer, Place> cast = new TreeMap<>();
            read.casts.add(cast);
            do {
                actor(cast);
            } while (next().equals("actor"));
            while (next().equals("shot")) {
                shot(cast);
            }
        }

        private void actor(TreeMap<Integer, Place> cast) {
            keyword("actor");
            int actor = number(5);
            if (cast.containsKey(actor)) {
                at--;
                throw wrong(3);
            }
            cast.put(actor, new Place(number(199), number(199)));
            keyword(";");
        }

        private void shot(TreeMap<Integer, Place> cast) {
            if (read.takes.size() == 12) {
                throw wrong(4);
            }
            keyword("shot");
            Place camera = new Place(number(199), number(199));
            int subject = actorOf(cast);
            if (cast.get(subject).equals(camera)) {
                at--;
                throw wrong(3);
            }
            int partner = -1;
            if (next().equals("none")) {
                at++;
            } else {
                partner = actorOf(cast);
                if (partner == subject) {
                    at--;
                    throw wrong(3);
                }
            }
            int seconds = number(99);
            if (seconds == 0) {
                at--;
                throw wrong(2);
            }
            keyword(";");
            read.takes.add(new Take(read.casts.size() - 1, camera, subject, partner, seconds));
        }

        private int actorOf(TreeMap<Integer, Place> cast) {
            int actor = number(9999);
            if (!cast.containsKey(actor)) {
                at--;
                throw wrong(2);
            }
            return actor;
        }

        private int number(int most) {
            if (!next().matches("[0-9]{1,4}")) {
                throw wrong(1);
            }
            if (Integer.parseInt(next()) > most) {
                throw wrong(2);
            }
            at++;
            return Integer.parseInt(tokens.get(at - 1));
        }

        private void keyword(String word) {
            if (!next().equals(word)) {
                throw wrong(1);
            }
            at++;
        }

        private String next() {
            return at < tokens.size() ? tokens.get(at) : "";
        }

        private Wrong wrong(int code) {
            return new Wrong(code, at < tokens.size() ? positions.get(at) : text.length());
        }
    }

    // ---- the board

    public int count(int what) {
        board();
        return pick(what, state.lights.size(), state.takes.size(), state.reach, state.turn,
                state.field, state.takes.stream().mapToInt(Take::seconds).sum());
    }

    public int scene(int scene, int what) {
        TreeMap<Integer, Place> cast = castOf(scene);
        return pick(what, state.lights.get(scene), set(cast.keySet()),
                (int) state.takes.stream().filter(take -> take.scene == scene).count());
    }

    public int actor(int scene, int actor, boolean isY) {
        Place place = placeOf(scene, actor);
        return isY ? place.y : place.x;
    }

    public int shot(int shot, int what) {
        Take take = take(shot);
        return pick(what, take.scene, take.camera.x, take.camera.y, take.subject, take.partner,
                take.seconds);
    }

    // ---- actions

    public int setLimits(int reach, int turn, int field) {
        board();
        need(in(reach, 0, 99) && in(turn, 0, 2000) && in(field, 0, 2000));
        State next = state.copy();
        next.reach = reach;
        next.turn = turn;
        next.field = field;
        act(next);
        return setups();
    }

    public int setLight(int scene, int light) {
        castOf(scene);
        need(in(light, 0, 3));
        State next = state.copy();
        int old = next.lights.set(scene, light);
        act(next);
        return old;
    }

    public int moveActor(int scene, int actor, int x, int y) {
        placeOf(scene, actor);
        Place place = place(x, y);
        for (Take take : state.takes) {
            if (take.scene == scene && take.subject == actor && take.camera.equals(place)) {
                return -2;
            }
        }
        State next = state.copy();
        next.casts.get(scene).put(actor, place);
        return act(next);
    }

    public int moveCamera(int shot, int x, int y) {
        Take take = take(shot);
        Place place = place(x, y);
        return state.subject(take).equals(place) ? -2 : act(state.withCamera(shot, place));
    }

    public int setCast(int shot, int subject, int partner) {
        Take take = take(shot);
        Place place = placeOf(take.scene, subject);
        need(partner == -1 || state.casts.get(take.scene).containsKey(partner));
        if (subject == partner) {
            return -2;
        }
        if (place.equals(take.camera)) {
            return -3;
        }
        State next = state.copy();
        next.takes.set(shot,
                new Take(take.scene, take.camera, subject, partner, take.seconds));
        return act(next);
    }

    public int setLength(int shot, int seconds) {
        Take take = take(shot);
        need(in(seconds, 1, 99));
        State next = state.copy();
        next.takes.set(shot,
                new Take(take.scene, take.camera, take.subject, take.partner, seconds));
        act(next);
        return take.seconds;
    }

    public int shift(int shot, int number) {
        if (take(shot).scene != take(number).scene) {
            return -2;
        }
        State next = state.copy();
        next.takes.add(number, next.takes.remove(shot));
        return act(next);
    }

    public int drop(int shot) {
        take(shot);
        State next = state.copy();
        next.takes.remove(shot);
        act(next);
        return next.takes.size();
    }

    public int flip(int shot) {
        take(shot);
        State next = state.copy();
        int answer = flipped(next, shot);
        return answer < 0 ? answer : act(next);
    }

    private static int flipped(State next, int shot) {
        Take take = next.takes.get(shot);
        if (take.partner == -1) {
            return -2;
        }
        Place one = next.subject(take);
        Place two = next.partner(take);
        Place to = new Place(one.x + two.x - take.camera.x, one.y + two.y - take.camera.y);
        if (!in(to.x, 0, 199) || !in(to.y, 0, 199)) {
            return -3;
        }
        if (to.equals(one)) {
            return -4;
        }
        next.takes.set(shot, take.at(to));
        return next.faults().size();
    }

    public int join(int shot, int setup) {
        take(shot);
        setupAt(setup);
        State next = state.copy();
        int answer = joined(next, shot, setup);
        return answer < 0 ? answer : act(next);
    }

    private static int joined(State next, int shot, int setup) {
        int before = next.faults().size();
        Take first = next.takes.get(next.setups().get(setup).get(0));
        Take take = next.takes.get(shot);
        if (first.scene != take.scene) {
            return -2;
        }
        if (next.subject(take).equals(first.camera)) {
            return -3;
        }
        next.takes.set(shot, take.at(first.camera));
        return next.faults().size() > before ? -4 : next.faults().size();
    }

    public int mend() {
        board();
        State next = state.copy();
        int flips = 0;
        for (State better = better(next); better != null; better = better(next)) {
            next = better;
            flips++;
        }
        if (flips == 0) {
            return -2;
        }
        act(next);
        return flips;
    }

    private static State better(State now) {
        State best = now;
        for (int shot = 0; shot < now.takes.size(); shot++) {
            State trial = now.copy();
            if (flipped(trial, shot) >= 0 && trial.faults().size() < best.faults().size()) {
                best = trial;
            }
        }
        return best == now ? null : best;
    }

    // ---- what a camera sees

    public int direction(int x, int y) {
        board();
        need(in(x, -199, 199) && in(y, -199, 199));
        return x == 0 && y == 0 ? -2 : number(new Place(0, 0), new Place(x, y));
    }

    public int view(int shot) {
        return state.view(take(shot));
    }

    public int side(int shot) {
        return state.side(take(shot));
    }

    public int look(int shot) {
        return state.look(take(shot));
    }

    public int visible(int shot) {
        return set(state.visible(take(shot)));
    }

    public int eyeline(int shot) {
        Take take = take(shot);
        if (take.partner == -1) {
            return -2;
        }
        Place eye = state.subject(take);
        if (eye.equals(state.partner(take))) {
            return -3;
        }
        return turned(number(eye, state.partner(take)), number(eye, take.camera));
    }

    public boolean isNear(int shot, int other) {
        return state.near(take(shot), take(other));
    }

    // ---- faults

    public int faults() {
        board();
        return state.faults().size();
    }

    public int fault(int index, int what) {
        board();
        need(in(what, 0, 2) && index >= 0);
        Fault fault = element(state.faults(), index);
        return pick(what, fault.shot, fault.kind, fault.about);
    }

    public int faultsOf(int shot) {
        take(shot);
        TreeSet<Integer> kinds = new TreeSet<>();
        for (Fault fault : state.faults()) {
            if (fault.shot == shot) {
                kinds.add(fault.kind);
            }
        }
        return set(kinds);
    }

    public int faultsWith(int shot, int x, int y) {
        Take take = take(shot);
        Place place = place(x, y);
        if (state.subject(take).equals(place)) {
            return -2;
        }
        return state.withCamera(shot, place).faults().size();
    }

    public int bestShot(int scene, int place) {
        castOf(scene);
        need(place >= 0);
        List<Integer> numbers = new ArrayList<>();
        for (int shot = 0; shot < state.takes.size(); shot++) {
            if (state.takes.get(shot).scene == scene) {
                numbers.add(shot);
            }
        }
        if (numbers.size() > 6) {
            return -2;
        }
        element(numbers, place);
        List<List<Integer>> all = new ArrayList<>();
        permute(new ArrayList<>(), numbers, all);
        List<Integer> best = null;
        int least = 0;
        for (List<Integer> order : all) {
            State trial = state.copy();
            for (int i = 0; i < order.size(); i++) {
                trial.takes.set(numbers.get(i), state.takes.get(order.get(i)));
            }
            if (best == null || trial.faults().size() < least) {
                best = order;
                least = trial.faults().size();
            }
        }
        return best.get(place);
    }

    private static void permute(List<Integer> order, List<Integer> left, List<List<Integer>> all) {
        if (left.isEmpty()) {
            all.add(order);
        }
        for (Integer next : left) {
            List<Integer> longer = new ArrayList<>(order);
            longer.add(next);
            List<Integer> rest = new ArrayList<>(left);
            rest.remove(next);
            permute(longer, rest, all);
        }
    }

    // ---- setups

    public int setups() {
        board();
        return state.setups().size();
    }

    public int setupOf(int shot) {
        take(shot);
        List<List<Integer>> setups = state.setups();
        for (int setup = 0; setup < setups.size(); setup++) {
            if (setups.get(setup).contains(shot)) {
                return setup;
            }
        }
        throw new AssertionError();
    }

    public int setup(int setup, int what) {
        List<Integer> shots = setupAt(setup);
        return pick(what, shots.get(0), set(shots), set(state.actors(shots)),
                state.seconds(shots), state.takes.get(shots.get(0)).scene);
    }

    public int joinable(int shot) {
        take(shot);
        TreeSet<Integer> joinable = new TreeSet<>();
        for (int setup = 0; setup < setups(); setup++) {
            if (!state.setups().get(setup).contains(shot)
                    && joined(state.copy(), shot, setup) >= 0) {
                joinable.add(setup);
            }
        }
        return set(joinable);
    }

    public int leastReach(int most) {
        board();
        need(in(most, 0, 12));
        State trial = state.copy();
        for (trial.reach = 0; trial.reach < 100; trial.reach++) {
            if (trial.setups().size() <= most) {
                return trial.reach;
            }
        }
        return -2;
    }

    // ---- orders and days

    public int change(int from, int to) {
        List<Integer> fromSetup = from == -1 ? null : setupAt(from);
        return state.cost(fromSetup, setupAt(to));
    }

    public int plainCost() {
        board();
        List<List<Integer>> setups = state.setups();
        int cost = 0;
        for (int i = 0; i < setups.size(); i++) {
            cost += state.cost(i == 0 ? null : setups.get(i - 1), setups.get(i));
        }
        return cost;
    }

    private Orders orders() {
        if (state.orders == null) {
            state.orders = new Orders(state);
        }
        return state.orders;
    }

    public int bestCost() {
        board();
        return orders().least;
    }

    public int ordered(int place) {
        board();
        need(place >= 0);
        return element(orders().best, place);
    }

    public int days(int limit) {
        board();
        need(in(limit, 1, 9999));
        List<List<Integer>> days = new ArrayList<>();
        for (int setup : orders().best) {
            int seconds = state.seconds(state.setups().get(setup));
            if (seconds > limit) {
                return -2;
            }
            List<Integer> today = days.isEmpty() ? List.of() : days.get(days.size() - 1);
            int used = today.stream().mapToInt(Integer::intValue).sum();
            if (days.isEmpty() || used + seconds > limit) {
                days.add(new ArrayList<>());
            }
            days.get(days.size() - 1).add(seconds);
        }
        return days.size();
    }

    public double stay(int actor) {
        board();
        need(in(actor, 0, 5));
        List<List<Integer>> order = new ArrayList<>();
        for (int setup : orders().best) {
            order.add(state.setups().get(setup));
        }
        while (!order.isEmpty() && !state.actors(order.get(0)).contains(actor)) {
            order.remove(0);
        }
        while (!order.isEmpty() && !state.actors(order.get(order.size() - 1)).contains(actor)) {
            order.remove(order.size() - 1);
        }
        double all = order.stream().mapToInt(state::seconds).sum();
        order.removeIf(setup -> !state.actors(setup).contains(actor));
        double own = order.stream().mapToInt(state::seconds).sum();
        return own == 0 ? 0 : all / own;
    }

    // ---- plan

    public int writePlan() {
        board();
        StringBuilder lines = new StringBuilder();
        for (int setup : orders().best) {
            lines.append("setup ").append(setup);
            for (int shot : state.setups().get(setup)) {
                lines.append(' ').append(shot);
            }
            lines.append('\n');
        }
        String[] words = {"axis", "eyeline", "jump", "blocked"};
        for (Fault fault : state.faults()) {
            String word = words[fault.kind];
            lines.append(String.format("shot %d %s %d\n", fault.shot, word, fault.about));
        }
        plan = lines.toString();
        return plan.length();
    }

    public int planByte(int index) {
        board();
        need(index >= 0);
        if (index >= plan.length()) {
            throw new NoSuchElementException();
        }
        return plan.charAt(index);
    }

    public int undo() {
        board();
        if (former.isEmpty()) {
            return -2;
        }
        state = former.pop();
        return former.size();
    }

    // ---- helpers

    private int act(State next) {
        former.push(state);
        if (former.size() > 10) {
            former.removeLast();
        }
        state = next;
        return state.faults().size();
    }

    private void board() {
        if (state == null) {
            throw new IllegalStateException();
        }
    }

    private static void need(boolean holds) {
        if (!holds) {
            throw new IllegalArgumentException();
        }
    }

    private static boolean in(int value, int least, int most) {
        return value >= least && value <= most;
    }

    private static int pick(int what, int... values) {
        need(in(what, 0, values.length - 1));
        return values[what];
    }

    private static <T> T element(List<T> list, int index) {
        if (index >= list.size()) {
            throw new NoSuchElementException();
        }
        return list.get(index);
    }

    private TreeMap<Integer, Place> castOf(int scene) {
        board();
        need(in(scene, 0, state.casts.size() - 1));
        return state.casts.get(scene);
    }

    private Place placeOf(int scene, int actor) {
        need(castOf(scene).containsKey(actor));
        return castOf(scene).get(actor);
    }

    private Take take(int shot) {
        board();
        need(in(shot, 0, state.takes.size() - 1));
        return state.takes.get(shot);
    }

    private List<Integer> setupAt(int setup) {
        board();
        need(in(setup, 0, setups() - 1));
        return state.setups().get(setup);
    }

    private static Place place(int x, int y) {
        need(in(x, 0, 199) && in(y, 0, 199));
        return new Place(x, y);
    }

    private static int set(Iterable<Integer> members) {
        int mask = 0;
        for (int member : members) {
            mask += 1 << member;
        }
        return mask;
    }

    private static int gcd(int a, int b) {
        return b == 0 ? a : gcd(b, a % b);
    }

    private static int cross(Place from, Place to, Place start, Place end) {
        return (to.x - from.x) * (end.y - start.y) - (to.y - from.y) * (end.x - start.x);
    }

    /** The direction number, counted by quarters of the circle. */
    private static int number(Place from, Place to) {
        int x = to.x - from.x;
        int y = to.y - from.y;
        int t = 1000 * Math.abs(y) / (Math.abs(x) + Math.abs(y));
        if (y >= 0) {
            return x > 0 ? t : 2000 - t;
        }
        return x < 0 ? 2000 + t : 4000 - t;
    }

    private static int turned(int one, int other) {
        int turn = Math.floorMod(one - other, 4000);
        return turn > 2000 ? 4000 - turn : turn;
    }
}
