/**
 * Runs a flow of messages with times over a graph with loops, one message or one notification a
 * call, and tells a vertex that a time is over only when nothing that is under way could still
 * come to it with that time or an earlier one.
 */
public final class FeedbackFlow {
    public static final int BAD = -1;
    public static final int FULL = -2;
    public static final int NONE = -3;
    public static final int LATE = -4;
    public static final int ILL = -5;
    public static final int WAIT = -6;

    private static final int MOST_VERTICES = 8;
    private static final int MOST_EDGES = 12;
    private static final int MOST_MESSAGES = 6;
    private static final int MOST_REQUESTS = 4;
    private static final int MOST_DEPTH = 2;
    private static final int LAST_COUNT = 15;

    private static final int INPUT = 0;
    private static final int PLAIN = 1;
    private static final int ENTRY = 2;
    private static final int EXIT = 3;
    private static final int BACK = 4;

    private static final int PASS = 0;
    private static final int SUM = 1;
    private static final int STEP = 2;
    private static final int KEEP = 3;

    private static final int NOWHERE = -1;

    private final Graph graph;
    private boolean building;
    private int delivered;
    private int fired;
    private int sent;

    public FeedbackFlow() {
        graph = new Graph();
        building = true;
    }

    public int vertex(int kind, int depth, int work) {
        if (!building || !fits(kind, depth) || work < PASS || work > KEEP) {
            return BAD;
        }
        if (graph.vertexCount >= MOST_VERTICES) {
            return FULL;
        }
        return graph.addVertex(kind, depth, work);
    }

    public int edge(int from, int to) {
        if (!building || !graph.hasVertex(from) || !graph.hasVertex(to) || !graph.mayLead(from, to)) {
            return BAD;
        }
        if (graph.edgeCount >= MOST_EDGES) {
            return FULL;
        }
        return graph.addEdge(from, to);
    }

    public int start() {
        if (!building) {
            return BAD;
        }
        if (!graph.isWhole()) {
            return ILL;
        }
        building = false;
        return 0;
    }

    public int put(int v, int value) {
        if (!isRunningInput(v)) {
            return BAD;
        }
        Vertex input = graph.vertices[v];
        if (!input.open) {
            return NONE;
        }
        if (!graph.hasRoom(input.outEdges, NOWHERE)) {
            return FULL;
        }
        send(input.outEdges, value, Time.ofEpoch(input.epoch));
        return 0;
    }

    public int advance(int v) {
        if (!isRunningInput(v)) {
            return BAD;
        }
        Vertex input = graph.vertices[v];
        if (!input.open) {
            return NONE;
        }
        if (input.epoch >= LAST_COUNT) {
            return LATE;
        }
        input.epoch++;
        return input.epoch;
    }

    public int close(int v) {
        if (!isRunningInput(v)) {
            return BAD;
        }
        Vertex input = graph.vertices[v];
        if (!input.open) {
            return NONE;
        }
        input.open = false;
        return 0;
    }

    public int deliver(int edge) {
        if (building || !graph.hasEdge(edge)) {
            return BAD;
        }
        Edge line = graph.edges[edge];
        if (line.count == 0) {
            return NONE;
        }
        Vertex v = graph.vertices[line.to];
        int value = line.values[0];
        int time = line.moments[0];
        if (v.kind == BACK && Time.lastCounter(time, v.depth) >= LAST_COUNT) {
            return LATE;
        }
        int targets = v.targetsFor(value);
        if (!graph.hasRoom(targets, edge) || !v.canGather(time)) {
            return FULL;
        }
        line.dropFirst();
        delivered++;
        v.sum += value;
        if (v.work == SUM) {
            v.gather(time, value);
        }
        return send(targets, v.passedOn(value), v.timeBehind(time));
    }

    public int requests() {
        int count = 0;
        for (int v = 0; v < graph.vertexCount; v++) {
            count += graph.vertices[v].requestCount;
        }
        return count;
    }

    public int request(int i, int what) {
        int v = graph.vertexOfRequest(i);
        if (v == NOWHERE || what < 0 || what > 4) {
            return BAD;
        }
        int slot = graph.slotOfRequest(i);
        if (what == 0) {
            return v;
        }
        if (what == 4) {
            return graph.vertices[v].gathered[slot];
        }
        return Time.part(graph.vertices[v].moments[slot], what);
    }

    public int ahead(int i) {
        int v = graph.vertexOfRequest(i);
        if (v == NOWHERE) {
            return BAD;
        }
        return graph.countAhead(v, graph.slotOfRequest(i));
    }

    public int fire(int i) {
        int v = graph.vertexOfRequest(i);
        if (v == NOWHERE) {
            return BAD;
        }
        int slot = graph.slotOfRequest(i);
        if (graph.countAhead(v, slot) > 0) {
            return WAIT;
        }
        Vertex summing = graph.vertices[v];
        if (!graph.hasRoom(summing.outEdges, NOWHERE)) {
            return FULL;
        }
        int value = summing.gathered[slot];
        int time = summing.moments[slot];
        summing.dropSlot(slot);
        fired++;
        return send(summing.outEdges, value, time);
    }

    public int waiting(int edge) {
        return graph.hasEdge(edge) ? graph.edges[edge].count : BAD;
    }

    public int message(int edge, int k, int what) {
        if (!graph.hasEdge(edge) || what < 0 || what > 3) {
            return 0;
        }
        Edge line = graph.edges[edge];
        if (k < 0 || k >= line.count) {
            return 0;
        }
        return what == 0 ? line.values[k] : Time.part(line.moments[k], what);
    }

    public int total(int v) {
        return graph.hasVertex(v) ? graph.vertices[v].sum : 0;
    }

    public int points() {
        int count = requests();
        for (int e = 0; e < graph.edgeCount; e++) {
            count += graph.edges[e].countMoments();
        }
        for (int v = 0; v < graph.vertexCount; v++) {
            if (graph.vertices[v].open) {
                count++;
            }
        }
        return count;
    }

    public int times(int which) {
        switch (which) {
            case 0:
                return delivered;
            case 1:
                return fired;
            case 2:
                return sent;
            default:
                return BAD;
        }
    }

    private static boolean fits(int kind, int depth) {
        switch (kind) {
            case INPUT:
                return depth == 0;
            case PLAIN:
                return depth >= 0 && depth <= MOST_DEPTH;
            case ENTRY:
            case EXIT:
            case BACK:
                return depth >= 1 && depth <= MOST_DEPTH;
            default:
                return false;
        }
    }

    private boolean isRunningInput(int v) {
        return !building && graph.hasVertex(v) && graph.vertices[v].kind == INPUT;
    }

    private int send(int targets, int value, int time) {
        int count = 0;
        for (int e = 0; e < graph.edgeCount; e++) {
            if ((targets & 1 << e) != 0) {
                graph.edges[e].append(value, time);
                count++;
            }
        }
        sent += count;
        return count;
    }

    /**
     * A time is one int: the epoch above the first counter above the second, a counter that its
     * depth lacks being 0. So the ints of one depth and epoch stand in the order of the counters,
     * and an entry need not change the int. The fields are wider than 15 needs, because counters
     * grow beyond it where only the ways of a point are followed.
     */
    private static final class Time {
        private static final int FIELD_BITS = 10;
        private static final int FIELD = (1 << FIELD_BITS) - 1;
        private static final int COUNTERS = (1 << 2 * FIELD_BITS) - 1;

        private static int ofEpoch(int epoch) {
            return epoch << 2 * FIELD_BITS;
        }

        private static int epochOf(int time) {
            return time >> 2 * FIELD_BITS;
        }

        private static int countersOf(int time) {
            return time & COUNTERS;
        }

        /** The epoch for 1, the first counter for 2, the second for 3, as the face numbers them. */
        private static int part(int time, int what) {
            return time >> (3 - what) * FIELD_BITS & FIELD;
        }

        private static int lastCounter(int time, int depth) {
            return part(time, depth + 1);
        }

        /** What is to be added to a time so that its last counter is greater by 1. */
        private static int oneMore(int depth) {
            return 1 << (MOST_DEPTH - depth) * FIELD_BITS;
        }

        /** The bits of a time but for those of its last counter. */
        private static int butLast(int depth) {
            return ~(FIELD << (MOST_DEPTH - depth) * FIELD_BITS);
        }
    }

    private static final class Vertex {
        private int kind;
        private int depth;
        private int work;
        /** What the vertex does to a time: these bits of it stay, and this is added. */
        private int staying;
        private int added;
        /** Bit e stands for edge e. */
        private int outEdges;
        private int sum;
        private int epoch;
        private boolean open;
        /** The requests in growing order of their times, which is the order of their numbers. */
        private int requestCount;
        private final int[] moments = new int[MOST_REQUESTS];
        private final int[] gathered = new int[MOST_REQUESTS];

        private void become(int newKind, int newDepth, int newWork) {
            kind = newKind;
            depth = newDepth;
            // The work counts for plain ones alone: the others hand on whatever comes.
            work = newKind == PLAIN ? newWork : PASS;
            staying = newKind == EXIT ? Time.butLast(newDepth) : ~0;
            added = newKind == BACK ? Time.oneMore(newDepth) : 0;
            open = newKind == INPUT;
        }

        private int inDepth() {
            return kind == ENTRY ? depth - 1 : depth;
        }

        private int outDepth() {
            return kind == EXIT ? depth - 1 : depth;
        }

        private int timeBehind(int time) {
            return (time & staying) + added;
        }

        private int targetsFor(int value) {
            if (work == PASS) {
                return outEdges;
            }
            if (work != STEP) {
                return 0;
            }
            int first = outEdges & -outEdges;
            int others = outEdges - first;
            return value > 0 ? first : others & -others;
        }

        private int passedOn(int value) {
            return work == STEP && value > 0 ? value - 1 : value;
        }

        private boolean canGather(int time) {
            return work != SUM || requestCount < MOST_REQUESTS || slotOf(time) != NOWHERE;
        }

        private int slotOf(int time) {
            for (int s = 0; s < requestCount; s++) {
                if (moments[s] == time) {
                    return s;
                }
            }
            return NOWHERE;
        }

        private void gather(int time, int value) {
            int slot = slotOf(time);
            if (slot == NOWHERE) {
                slot = makeSlot(time);
            }
            gathered[slot] += value;
        }

        private int makeSlot(int time) {
            int slot = requestCount;
            while (slot > 0 && moments[slot - 1] > time) {
                moments[slot] = moments[slot - 1];
                gathered[slot] = gathered[slot - 1];
                slot--;
            }
            moments[slot] = time;
            gathered[slot] = 0;
            requestCount++;
            return slot;
        }

        private void dropSlot(int slot) {
            requestCount--;
            for (int s = slot; s < requestCount; s++) {
                moments[s] = moments[s + 1];
                gathered[s] = gathered[s + 1];
            }
        }
    }

    private static final class Edge {
        private int from;
        private int to;
        private int count;
        private final int[] values = new int[MOST_MESSAGES];
        private final int[] moments = new int[MOST_MESSAGES];

        private void append(int value, int time) {
            values[count] = value;
            moments[count] = time;
            count++;
        }

        private void dropFirst() {
            count--;
            for (int k = 0; k < count; k++) {
                values[k] = values[k + 1];
                moments[k] = moments[k + 1];
            }
        }

        /** Messages with one time are one point: the first of them stands for all. */
        private boolean isFirstOfMoment(int k) {
            for (int j = 0; j < k; j++) {
                if (moments[j] == moments[k]) {
                    return false;
                }
            }
            return true;
        }

        private int countMoments() {
            int found = 0;
            for (int k = 0; k < count; k++) {
                if (isFirstOfMoment(k)) {
                    found++;
                }
            }
            return found;
        }
    }

    private static final class Graph {
        private static final int NEVER = 0x7fffffff;
        /**
         * A way that comes to a vertex again is of use only if its counters are less then, and
         * only an exit and an entry after it can make them so: once by way of depth 0 and once
         * more by way of depth 1. So an earliest way meets each vertex three times at most.
         */
        private static final int MOST_ROUNDS = 3 * MOST_VERTICES;

        private final Vertex[] vertices = new Vertex[MOST_VERTICES];
        private final Edge[] edges = new Edge[MOST_EDGES];
        private int vertexCount;
        private int edgeCount;
        /** The least counters with which the point that is followed can come to each vertex. */
        private final int[] earliest = new int[MOST_VERTICES];

        private Graph() {
            for (int v = 0; v < MOST_VERTICES; v++) {
                vertices[v] = new Vertex();
            }
            for (int e = 0; e < MOST_EDGES; e++) {
                edges[e] = new Edge();
            }
        }

        private boolean hasVertex(int v) {
            return v >= 0 && v < vertexCount;
        }

        private boolean hasEdge(int e) {
            return e >= 0 && e < edgeCount;
        }

        private int addVertex(int kind, int depth, int work) {
            vertices[vertexCount].become(kind, depth, work);
            vertexCount++;
            return vertexCount - 1;
        }

        private boolean mayLead(int from, int to) {
            if (vertices[to].kind == INPUT || vertices[to].inDepth() != vertices[from].outDepth()) {
                return false;
            }
            for (int e = 0; e < edgeCount; e++) {
                if (edges[e].from == from && edges[e].to == to) {
                    return false;
                }
            }
            return true;
        }

        private int addEdge(int from, int to) {
            edges[edgeCount].from = from;
            edges[edgeCount].to = to;
            vertices[from].outEdges |= 1 << edgeCount;
            edgeCount++;
            return edgeCount - 1;
        }

        /** Takes away what no ring without a back can hold, until only such rings are left. */
        private boolean isWhole() {
            int left = 0;
            for (int v = 0; v < vertexCount; v++) {
                if (vertices[v].kind != BACK) {
                    left |= 1 << v;
                }
            }
            for (int round = 0; round < MOST_VERTICES; round++) {
                left &= reachedFrom(left);
            }
            return left == 0;
        }

        private int reachedFrom(int origins) {
            int reached = 0;
            for (int e = 0; e < edgeCount; e++) {
                if ((origins & 1 << edges[e].from) != 0) {
                    reached |= 1 << edges[e].to;
                }
            }
            return reached;
        }

        private boolean hasRoom(int targets, int taken) {
            for (int e = 0; e < edgeCount; e++) {
                int held = e == taken ? edges[e].count - 1 : edges[e].count;
                if ((targets & 1 << e) != 0 && held >= MOST_MESSAGES) {
                    return false;
                }
            }
            return true;
        }

        private int vertexOfRequest(int i) {
            if (i < 0) {
                return NOWHERE;
            }
            int before = 0;
            for (int v = 0; v < vertexCount; v++) {
                before += vertices[v].requestCount;
                if (i < before) {
                    return v;
                }
            }
            return NOWHERE;
        }

        /** For the number of a request that there is. */
        private int slotOfRequest(int i) {
            int slot = i;
            for (int v = 0; v < vertexCount && slot >= vertices[v].requestCount; v++) {
                slot -= vertices[v].requestCount;
            }
            return slot;
        }

        private int countAhead(int v, int slot) {
            int time = vertices[v].moments[slot];
            int count = 0;
            for (int e = 0; e < edgeCount; e++) {
                count += countMessagesAhead(edges[e], v, time);
            }
            for (int u = 0; u < vertexCount; u++) {
                count += countRequestsAhead(u, v, time);
                if (vertices[u].open && isAhead(u, Time.ofEpoch(vertices[u].epoch), v, time)) {
                    count++;
                }
            }
            return count;
        }

        private int countMessagesAhead(Edge line, int goal, int goalTime) {
            int count = 0;
            for (int k = 0; k < line.count; k++) {
                if (line.isFirstOfMoment(k) && isAhead(line.to, line.moments[k], goal, goalTime)) {
                    count++;
                }
            }
            return count;
        }

        private int countRequestsAhead(int u, int goal, int goalTime) {
            int count = 0;
            for (int s = 0; s < vertices[u].requestCount; s++) {
                int time = vertices[u].moments[s];
                boolean own = u == goal && time == goalTime;
                if (!own && isAhead(u, time, goal, goalTime)) {
                    count++;
                }
            }
            return count;
        }

        private boolean isAhead(int u, int time, int goal, int goalTime) {
            if (Time.epochOf(time) > Time.epochOf(goalTime)) {
                return false;
            }
            follow(u, Time.countersOf(time));
            return earliest[goal] <= Time.countersOf(goalTime);
        }

        /**
         * The least counters are enough to know: what a vertex does to two times never turns
         * their order round.
         */
        private void follow(int u, int counters) {
            for (int v = 0; v < MOST_VERTICES; v++) {
                earliest[v] = NEVER;
            }
            earliest[u] = counters;
            boolean changed = true;
            for (int round = 0; round < MOST_ROUNDS && changed; round++) {
                changed = followEdges();
            }
        }

        private boolean followEdges() {
            boolean changed = false;
            for (int e = 0; e < edgeCount; e++) {
                int from = edges[e].from;
                int to = edges[e].to;
                if (earliest[from] != NEVER) {
                    int counters = vertices[from].timeBehind(earliest[from]);
                    if (counters < earliest[to]) {
                        earliest[to] = counters;
                        changed = true;
                    }
                }
            }
            return changed;
        }
    }
}
