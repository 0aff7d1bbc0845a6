import java.util.ArrayDeque;
import java.util.ArrayList;
import java.util.HashMap;
import java.util.HashSet;
import java.util.List;
import java.util.Map;
import java.util.Set;
import java.util.TreeMap;

// Long runs of calls, each answer compared with that of a plainer program that follows the
// document's words: times are lists, and a point's ways are all tried, time by time.
public final class FeedbackFlowModel {
    private static final int RUNS = 1200;
    private static final int CALLS = 512;

    private static int wrong = 0;

    /** The same numbers in every run of the tests. */
    private static final class Dice {
        private long state;

        Dice(long seed) {
            state = seed * 0x9E3779B97F4A7C15L + 0x1234567;
        }

        int below(int bound) {
            state = state * 6364136223846793005L + 1442695040888963407L;
            return (int) ((state >>> 33) % bound);
        }
    }

    private record Message(int value, List<Integer> time) { }

    private record Point(String place, List<Integer> time) { }

    /** A request's place in the order of the numbers. */
    private record Key(int vertex, List<Integer> time) implements Comparable<Key> {
        @Override
        public int compareTo(Key other) {
            if (vertex != other.vertex) {
                return Integer.compare(vertex, other.vertex);
            }
            for (int i = 0; i < time.size(); i++) {
                if (!time.get(i).equals(other.time.get(i))) {
                    return Integer.compare(time.get(i), other.time.get(i));
                }
            }
            return 0;
        }
    }

    private static final class Model {
        private final List<int[]> vertices = new ArrayList<>();
        private final List<int[]> edges = new ArrayList<>();
        private final List<List<Message>> lines = new ArrayList<>();
        private final int[] totals = new int[8];
        private final int[] epochs = new int[8];
        private final Set<Integer> open = new HashSet<>();
        private final TreeMap<Key, Integer> gathered = new TreeMap<>();
        private final Map<Point, Set<Point>> ways = new HashMap<>();
        private final int[] done = new int[3];
        private boolean building = true;

        int vertex(int kind, int depth, int work) {
            int least = kind >= 2 ? 1 : 0;
            int most = kind == 0 ? 0 : 2;
            boolean fits = kind >= 0 && kind <= 4 && depth >= least && depth <= most;
            if (!building || !fits || work < 0 || work > 3) {
                return -1;
            }
            if (vertices.size() == 8) {
                return -2;
            }
            if (kind == 0) {
                open.add(vertices.size());
            }
            vertices.add(new int[] {kind, depth, work});
            return vertices.size() - 1;
        }

        int edge(int from, int to) {
            if (!building || !isVertex(from) || !isVertex(to) || kind(to) == 0) {
                return -1;
            }
            int out = vertices.get(from)[1] - (kind(from) == 3 ? 1 : 0);
            int in = vertices.get(to)[1] - (kind(to) == 2 ? 1 : 0);
            boolean known = edges.stream().anyMatch(e -> e[0] == from && e[1] == to);
            if (out != in || known) {
                return -1;
            }
            if (edges.size() == 12) {
                return -2;
            }
            edges.add(new int[] {from, to});
            lines.add(new ArrayList<>());
            return edges.size() - 1;
        }

        int start() {
            if (!building) {
                return -1;
            }
            for (int v = 0; v < vertices.size(); v++) {
                if (comesBackWithoutBack(v)) {
                    return -5;
                }
            }
            building = false;
            return 0;
        }

        private boolean comesBackWithoutBack(int v) {
            Set<Integer> met = new HashSet<>();
            ArrayDeque<Integer> next = new ArrayDeque<>(List.of(v));
            while (!next.isEmpty()) {
                int from = next.pop();
                for (int[] e : edges) {
                    if (e[0] != from || kind(from) == 4 || kind(e[1]) == 4) {
                        continue;
                    }
                    if (e[1] == v) {
                        return true;
                    }
                    if (met.add(e[1])) {
                        next.push(e[1]);
                    }
                }
            }
            return false;
        }

        int put(int v, int value) {
            if (building || !isVertex(v) || kind(v) != 0) {
                return -1;
            }
            if (!open.contains(v)) {
                return -3;
            }
            List<Integer> targets = outOf(v);
            if (targets.stream().anyMatch(e -> lines.get(e).size() == 6)) {
                return -2;
            }
            send(targets, value, List.of(epochs[v]));
            return 0;
        }

        int advance(int v) {
            if (building || !isVertex(v) || kind(v) != 0) {
                return -1;
            }
            if (!open.contains(v)) {
                return -3;
            }
            return epochs[v] == 15 ? -4 : ++epochs[v];
        }

        int close(int v) {
            if (building || !isVertex(v) || kind(v) != 0) {
                return -1;
            }
            return open.remove(v) ? 0 : -3;
        }

        int deliver(int edge) {
            if (building || !isEdge(edge)) {
                return -1;
            }
            List<Message> line = lines.get(edge);
            if (line.isEmpty()) {
                return -3;
            }
            int v = edges.get(edge)[1];
            Message m = line.get(0);
            List<Integer> after = behind(v, m.time(), 99);
            if (kind(v) == 4 && after.get(after.size() - 1) > 15) {
                return -4;
            }
            boolean plain = kind(v) == 1;
            int work = plain ? vertices.get(v)[2] : 0;
            List<Integer> targets = targets(v, work, m.value());
            line.remove(0);
            boolean full = targets.stream().anyMatch(e -> lines.get(e).size() == 6);
            Key key = new Key(v, m.time());
            if (work == 1 && !gathered.containsKey(key)) {
                full |= gathered.keySet().stream().filter(k -> k.vertex() == v).count() == 4;
            }
            if (full) {
                line.add(0, m);
                return -2;
            }
            totals[v] += m.value();
            done[0]++;
            if (work == 1) {
                gathered.merge(key, m.value(), Integer::sum);
            }
            int value = work == 2 && m.value() > 0 ? m.value() - 1 : m.value();
            return send(targets, value, after);
        }

        private List<Integer> targets(int v, int work, int value) {
            List<Integer> out = outOf(v);
            if (work == 0) {
                return out;
            }
            int place = value > 0 ? 0 : 1;
            return work == 2 && out.size() > place ? List.of(out.get(place)) : List.of();
        }

        int requests() {
            return gathered.size();
        }

        private Key key(int i) {
            return i < 0 || i >= gathered.size() ? null : new ArrayList<>(gathered.keySet()).get(i);
        }

        int request(int i, int what) {
            Key key = key(i);
            if (key == null || what < 0 || what > 4) {
                return -1;
            }
            if (what == 0) {
                return key.vertex();
            }
            return what == 4 ? gathered.get(key) : part(key.time(), what);
        }

        int ahead(int i) {
            Key key = key(i);
            return key == null ? -1 : countAhead(key);
        }

        private int countAhead(Key key) {
            Point own = new Point("v" + key.vertex(), key.time());
            int count = 0;
            for (Point p : underWay()) {
                if (!p.equals(own) && comesNotLater(p, own)) {
                    count++;
                }
            }
            return count;
        }

        private boolean comesNotLater(Point p, Point other) {
            for (Point q : ways.computeIfAbsent(p, this::allWays)) {
                if (q.place().equals(other.place()) && notLater(q.time(), other.time())) {
                    return true;
                }
            }
            return false;
        }

        private static boolean notLater(List<Integer> a, List<Integer> b) {
            if (a.get(0) > b.get(0)) {
                return false;
            }
            for (int i = 1; i < a.size(); i++) {
                if (!a.get(i).equals(b.get(i))) {
                    return a.get(i) < b.get(i);
                }
            }
            return true;
        }

        /** Counters stand still at 17: no request's is so great, so nothing depends on how great. */
        private Set<Point> allWays(Point p) {
            Set<Point> met = new HashSet<>(List.of(p));
            ArrayDeque<Point> next = new ArrayDeque<>(met);
            while (!next.isEmpty()) {
                Point q = next.pop();
                int number = Integer.parseInt(q.place().substring(1));
                List<Point> steps = new ArrayList<>();
                if (q.place().charAt(0) == 'e') {
                    steps.add(new Point("v" + edges.get(number)[1], q.time()));
                } else {
                    for (int e : outOf(number)) {
                        steps.add(new Point("e" + e, behind(number, q.time(), 17)));
                    }
                }
                for (Point step : steps) {
                    if (met.add(step)) {
                        next.push(step);
                    }
                }
            }
            return met;
        }

        private List<Integer> behind(int v, List<Integer> time, int most) {
            List<Integer> after = new ArrayList<>(time);
            int last = after.size() - 1;
            if (kind(v) == 2) {
                after.add(0);
            } else if (kind(v) == 3) {
                after.remove(last);
            } else if (kind(v) == 4) {
                after.set(last, Math.min(most, after.get(last) + 1));
            }
            return List.copyOf(after);
        }

        int fire(int i) {
            Key key = key(i);
            if (key == null) {
                return -1;
            }
            if (countAhead(key) > 0) {
                return -6;
            }
            List<Integer> targets = outOf(key.vertex());
            if (targets.stream().anyMatch(e -> lines.get(e).size() == 6)) {
                return -2;
            }
            done[1]++;
            return send(targets, gathered.remove(key), key.time());
        }

        int waiting(int edge) {
            return isEdge(edge) ? lines.get(edge).size() : -1;
        }

        int message(int edge, int k, int what) {
            if (!isEdge(edge) || k < 0 || k >= lines.get(edge).size() || what < 0 || what > 3) {
                return 0;
            }
            Message m = lines.get(edge).get(k);
            return what == 0 ? m.value() : part(m.time(), what);
        }

        int total(int v) {
            return isVertex(v) ? totals[v] : 0;
        }

        int points() {
            return underWay().size();
        }

        int times(int which) {
            return which < 0 || which > 2 ? -1 : done[which];
        }

        private Set<Point> underWay() {
            Set<Point> all = new HashSet<>();
            for (int e = 0; e < lines.size(); e++) {
                for (Message m : lines.get(e)) {
                    all.add(new Point("e" + e, m.time()));
                }
            }
            for (Key key : gathered.keySet()) {
                all.add(new Point("v" + key.vertex(), key.time()));
            }
            for (int v : open) {
                all.add(new Point("v" + v, List.of(epochs[v])));
            }
            return all;
        }

        private static int part(List<Integer> time, int what) {
            return what - 1 < time.size() ? time.get(what - 1) : 0;
        }

        private int send(List<Integer> targets, int value, List<Integer> time) {
            for (int e : targets) {
                lines.get(e).add(new Message(value, time));
            }
            done[2] += targets.size();
            return targets.size();
        }

        private List<Integer> outOf(int v) {
            List<Integer> out = new ArrayList<>();
            for (int e = 0; e < edges.size(); e++) {
                if (edges.get(e)[0] == v) {
                    out.add(e);
                }
            }
            return out;
        }

        private int kind(int v) {
            return vertices.get(v)[0];
        }

        private boolean isVertex(int v) {
            return v >= 0 && v < vertices.size();
        }

        private boolean isEdge(int e) {
            return e >= 0 && e < edges.size();
        }
    }

    /** Graphs in which every kind of loop stands, so that chance has only to add to them. */
    private static final int[][][] SHAPES = {
        {{0, 0, 0}, {2, 1, 0}, {1, 1, 2}, {4, 1, 0}, {3, 1, 0}, {1, 0, 1}},
        {{0, 0, 0}, {2, 1, 0}, {2, 2, 0}, {1, 2, 0}, {4, 2, 0}, {3, 2, 0}, {1, 2, 1}},
        {{0, 0, 0}, {2, 1, 0}, {2, 2, 0}, {4, 2, 0}, {3, 2, 0}, {4, 1, 0}, {1, 2, 1}, {1, 1, 1}},
        {{0, 0, 0}, {0, 0, 0}, {1, 0, 1}, {1, 0, 0}, {1, 0, 1}, {2, 1, 0}, {4, 1, 0}, {1, 1, 1}},
        {{0, 0, 0}, {2, 1, 0}, {1, 1, 1}, {4, 1, 0}, {3, 1, 0}, {1, 0, 1}, {1, 1, 1}},
        {{0, 0, 0}, {2, 1, 0}, {4, 1, 0}, {3, 1, 0}, {2, 2, 0}, {4, 2, 0}, {3, 2, 0}, {1, 2, 1}},
    };

    private static final class Run {
        private final int number;
        private final Dice dice;
        private final FeedbackFlow flow = new FeedbackFlow();
        private final Model model = new Model();
        private int calls = 0;

        Run(int number) {
            this.number = number;
            dice = new Dice(number);
        }

        /** Numbers that are mostly good, and now and then just beside what is, or far off. */
        private int about(int bound) {
            int roll = dice.below(60);
            if (roll == 0) {
                return dice.below(2) == 0 ? Integer.MIN_VALUE : Integer.MAX_VALUE;
            }
            return roll == 1 ? -1 : roll == 2 ? bound : dice.below(Math.max(1, bound));
        }

        private int value() {
            int roll = dice.below(12);
            return roll == 0 ? Integer.MAX_VALUE - dice.below(3)
                : roll == 1 ? Integer.MIN_VALUE + dice.below(3) : dice.below(12) - 4;
        }

        private void due(String call, int got, int want) {
            calls++;
            if (got != want) {
                wrong++;
                if (wrong < 50) {
                    System.out.println("run " + number + " call " + calls + ": " + call + " answered "
                        + got + ", due is " + want);
                }
            }
        }

        private void vertex(int kind, int depth, int work) {
            due("vertex(" + kind + ", " + depth + ", " + work + ")",
                flow.vertex(kind, depth, work), model.vertex(kind, depth, work));
        }

        private void edge(int from, int to) {
            due("edge(" + from + ", " + to + ")", flow.edge(from, to), model.edge(from, to));
        }

        private void build() {
            int[][] shape = SHAPES[dice.below(SHAPES.length)];
            boolean free = dice.below(8) == 0;
            for (int[] row : shape) {
                if (free) {
                    vertex(about(5), about(3), about(4));
                } else {
                    vertex(row[0], row[1], dice.below(6) == 0 ? dice.below(4) : row[2]);
                }
            }
            int tries = 20 + dice.below(60);
            for (int i = 0; i < tries; i++) {
                tryEdge();
            }
            if (dice.below(20) == 0) {
                vertex(about(5), about(3), about(4));
            }
            if (model.building) {
                due("start()", flow.start(), model.start());
            }
        }

        /** Keeps mostly to edges that leave the graph whole, or few runs would ever begin. */
        private void tryEdge() {
            int from = about(model.vertices.size());
            int to = about(model.vertices.size());
            boolean good = model.isVertex(from) && model.isVertex(to);
            if (good && model.building && dice.below(200) != 0 && closesRing(from, to)) {
                return;
            }
            edge(from, to);
        }

        private boolean closesRing(int from, int to) {
            model.edges.add(new int[] {from, to});
            boolean closes = model.comesBackWithoutBack(from);
            model.edges.remove(model.edges.size() - 1);
            return closes;
        }

        private void deliver() {
            int edge = about(model.edges.size());
            for (int i = 0; i < 6 && model.waiting(edge) == 0; i++) {
                edge = about(model.edges.size());
            }
            due("deliver(" + edge + ")", flow.deliver(edge), model.deliver(edge));
        }

        private void input() {
            int v = about(model.vertices.size());
            if (!model.open.isEmpty() && dice.below(8) != 0) {
                v = new ArrayList<>(model.open).get(dice.below(model.open.size()));
            }
            int roll = dice.below(40);
            int value = value();
            if (roll == 0) {
                due("close(" + v + ")", flow.close(v), model.close(v));
            } else if (roll < 10) {
                due("advance(" + v + ")", flow.advance(v), model.advance(v));
            } else {
                due("put(" + v + ", " + value + ")", flow.put(v, value), model.put(v, value));
            }
        }

        private void look() {
            int e = about(model.edges.size());
            int k = about(7);
            int what = about(5);
            int v = about(model.vertices.size());
            int i = about(model.requests());
            switch (dice.below(9)) {
                case 0 -> due("waiting(" + e + ")", flow.waiting(e), model.waiting(e));
                case 1, 2 -> due("message(" + e + ", " + k + ", " + what + ")",
                    flow.message(e, k, what), model.message(e, k, what));
                case 3 -> due("total(" + v + ")", flow.total(v), model.total(v));
                case 4 -> due("points()", flow.points(), model.points());
                case 5 -> due("times(" + what + ")", flow.times(what), model.times(what));
                case 6 -> due("requests()", flow.requests(), model.requests());
                default -> due("request(" + i + ", " + what + ")", flow.request(i, what), model.request(i, what));
            }
        }

        private void step() {
            int i = about(model.requests());
            int roll = dice.below(100);
            if (roll < 45) {
                deliver();
            } else if (roll < 58) {
                input();
            } else if (roll < 70) {
                due("ahead(" + i + ")", flow.ahead(i), model.ahead(i));
            } else if (roll < 80) {
                due("fire(" + i + ")", flow.fire(i), model.fire(i));
            } else if (roll < 99 || dice.below(4) != 0) {
                look();
            } else if (dice.below(3) == 0) {
                due("start()", flow.start(), model.start());
            } else if (dice.below(2) == 0) {
                vertex(about(5), about(3), about(4));
            } else {
                edge(about(model.vertices.size()), about(model.vertices.size()));
            }
        }

        void go() {
            build();
            while (calls < CALLS) {
                step();
            }
        }
    }

    public static void main(String[] args) {
        for (int number = 1; number <= RUNS && wrong == 0; number++) {
            new Run(number).go();
        }
        System.out.println(wrong == 0 ? "all answers are as the model's" : wrong + " answers are not as the model's");
        if (wrong != 0) {
            System.exit(1);
        }
    }
}
