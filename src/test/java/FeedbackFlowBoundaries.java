import java.util.ArrayList;
import java.util.List;
import java.util.Map;

/**
 * One test for each sentence of the document that names a boundary case, under the words of the
 * sentence, in the document's order.
 *
 * A test is a text of rows. A row holds steps with ';' between them, and may be told to be done
 * several times by 'n*' before it. A step is a call and its due answer, or one of two short forms:
 * 'graph input, sum 1 | 0>1' makes these vertices (with their depths) and edges, and
 * 'climb v a b' advances the input v with the answers a to b. Behind '#' stands a remark.
 *
 * Each test is run twice, the second time without its refused calls and its looks. In the end both
 * objects must answer everything alike: so what is refused changes nothing, and neither does a look.
 */
public final class FeedbackFlowBoundaries {
    private static final int MOST_CALLS = 512;

    private static final Map<String, Integer> REFUSALS = Map.of(
        "BAD", -1, "FULL", -2, "NONE", -3, "LATE", -4, "ILL", -5, "WAIT", -6);

    private static final Map<String, Integer> KINDS = Map.of(
        "INPUT", 0, "PLAIN", 1, "ENTRY", 2, "EXIT", 3, "BACK", 4);

    private static final Map<String, Integer> WORKS = Map.of("PASS", 0, "SUM", 1, "STEP", 2, "KEEP", 3);

    private static final Map<String, Integer> FAR = Map.of(
        "MIN", Integer.MIN_VALUE, "MAX", Integer.MAX_VALUE,
        "MIN+1", Integer.MIN_VALUE + 1, "MAX-1", Integer.MAX_VALUE - 1);

    private static final List<String> LOOKS = List.of(
        "requests", "request", "ahead", "waiting", "message", "total", "points", "times");

    private static int tests = 0;
    private static int wrong = 0;

    private static void report(String words, String what) {
        wrong++;
        System.out.println("\"" + words + "\": " + what);
    }

    private static int number(String word) {
        for (Map<String, Integer> names : List.of(REFUSALS, KINDS, WORKS, FAR)) {
            if (names.containsKey(word)) {
                return names.get(word);
            }
        }
        return Integer.parseInt(word);
    }

    private static final class Run {
        private final FeedbackFlow flow = new FeedbackFlow();
        private final String words;
        private final boolean whole;
        private int calls = 0;
        private int compared = 0;

        Run(String words, boolean whole) {
            this.words = words;
            this.whole = whole;
        }

        private int call(String name, int... a) {
            calls++;
            return switch (name) {
                case "vertex" -> flow.vertex(a[0], a[1], a[2]);
                case "edge" -> flow.edge(a[0], a[1]);
                case "start" -> flow.start();
                case "put" -> flow.put(a[0], a[1]);
                case "advance" -> flow.advance(a[0]);
                case "close" -> flow.close(a[0]);
                case "deliver" -> flow.deliver(a[0]);
                case "requests" -> flow.requests();
                case "request" -> flow.request(a[0], a[1]);
                case "ahead" -> flow.ahead(a[0]);
                case "fire" -> flow.fire(a[0]);
                case "waiting" -> flow.waiting(a[0]);
                case "message" -> flow.message(a[0], a[1], a[2]);
                case "total" -> flow.total(a[0]);
                case "points" -> flow.points();
                case "times" -> flow.times(a[0]);
                default -> throw new IllegalArgumentException("no such call: " + name);
            };
        }

        private void due(String what, int got, int want) {
            compared++;
            if (got != want) {
                report(words, "call " + calls + ": " + what + " answered " + got + ", due is " + want);
            }
        }

        void row(String row) {
            String text = row.strip();
            int star = text.indexOf('*');
            int often = star < 0 ? 1 : Integer.parseInt(text.substring(0, star).strip());
            for (int i = 0; i < often; i++) {
                for (String step : text.substring(star + 1).split(";")) {
                    step(step.strip());
                }
            }
        }

        private void step(String text) {
            if (text.startsWith("graph ")) {
                graph(text.substring(6));
                return;
            }
            String[] part = text.split("[ =]+");
            if (part[0].equals("climb")) {
                climb(number(part[1]), number(part[2]), number(part[3]));
                return;
            }
            String answer = part[part.length - 1];
            if (!whole && (LOOKS.contains(part[0]) || REFUSALS.containsKey(answer))) {
                return;
            }
            int[] arguments = new int[part.length - 2];
            for (int i = 0; i < arguments.length; i++) {
                arguments[i] = number(part[i + 1]);
            }
            due(text, call(part[0], arguments), number(answer));
        }

        private void climb(int v, int first, int last) {
            for (int epoch = first; epoch <= last; epoch++) {
                due("advance " + v, call("advance", v), epoch);
            }
        }

        private void graph(String text) {
            String[] halves = text.split("\\|");
            String[] vertices = halves[0].strip().split(" *, *");
            for (int v = 0; v < vertices.length; v++) {
                vertex(vertices[v].toUpperCase().split(" "), v);
            }
            String[] edges = halves.length < 2 ? new String[0] : halves[1].strip().split(" +");
            for (int e = 0; e < edges.length; e++) {
                String[] ends = edges[e].split(">");
                due("edge " + edges[e], call("edge", number(ends[0]), number(ends[1])), e);
            }
        }

        private void vertex(String[] part, int v) {
            int depth = part.length < 2 ? 0 : number(part[1]);
            boolean plain = WORKS.containsKey(part[0]);
            int kind = plain ? KINDS.get("PLAIN") : KINDS.get(part[0]);
            int work = plain ? WORKS.get(part[0]) : WORKS.get("PASS");
            due("vertex " + v, call("vertex", kind, depth, work), v);
        }

        private void note(List<String> seen, String name, int... arguments) {
            seen.add(name + java.util.Arrays.toString(arguments) + " = " + call(name, arguments));
        }

        /** All that can be looked at. */
        private void look(List<String> seen) {
            int requests = call("requests");
            for (int i = 0; i < requests; i++) {
                for (int what = 0; what < 5; what++) {
                    note(seen, "request", i, what);
                }
                note(seen, "ahead", i);
            }
            for (int e = 0; call("waiting", e) >= 0; e++) {
                int waiting = call("waiting", e);
                note(seen, "waiting", e);
                for (int k = 0; k < waiting; k++) {
                    for (int what = 0; what < 4; what++) {
                        note(seen, "message", e, k, what);
                    }
                }
            }
            for (int v = 0; v < 8; v++) {
                note(seen, "total", v);
            }
            note(seen, "points");
            for (int which = 0; which < 3; which++) {
                note(seen, "times", which);
            }
        }

        /** What cannot be looked at shows in the answers of the calls that act. */
        private void act(List<String> seen) {
            note(seen, "vertex", 1, 0, 3);
            note(seen, "start");
            for (int v = 0; v < 8; v++) {
                note(seen, "advance", v);
                note(seen, "put", v, 5);
            }
            for (int e = 0; e < 12; e++) {
                note(seen, "deliver", e);
            }
            note(seen, "fire", 0);
            for (int v = 0; v < 8; v++) {
                note(seen, "close", v);
            }
            note(seen, "fire", 0);
            note(seen, "requests");
            note(seen, "points");
        }

        List<String> end() {
            List<String> seen = new ArrayList<>();
            look(seen);
            act(seen);
            if (calls > MOST_CALLS) {
                report(words, "the test makes " + calls + " calls, and no answer is due for so many");
            }
            return seen;
        }
    }

    private static void sentence(String words, String rows) {
        tests++;
        Run whole = new Run(words, true);
        Run bare = new Run(words, false);
        for (String row : rows.lines().map(line -> line.replaceAll("#.*", "").strip()).toList()) {
            if (!row.isEmpty()) {
                whole.row(row);
                bare.row(row);
            }
        }
        if (whole.compared == 0) {
            report(words, "the test compares nothing");
        }
        List<String> changed = whole.end();
        List<String> unchanged = bare.end();
        for (int i = 0; i < Math.min(changed.size(), unchanged.size()); i++) {
            if (!changed.get(i).equals(unchanged.get(i))) {
                report(words, "in the end " + changed.get(i) + ", but without what was refused "
                    + unchanged.get(i));
                return;
            }
        }
        if (changed.size() != unchanged.size()) {
            report(words, "a refused call or a look has changed how many messages or requests there are");
        }
    }

    private static void calls() {
        String words = "An object is used for at most 512 calls after it has been made; what later calls answer is free.";
        tests++;
        Run run = new Run(words, true);
        run.row("graph input, keep 0 | 0>1");
        run.row("start = 0");
        run.row("253* put 0 1 = 0; deliver 0 = 0");
        run.row("times 0 = 253; total 1 = 253");
        if (run.calls != MOST_CALLS) {
            report(words, "the test makes " + run.calls + " calls");
        }
        // Free are the answers: to throw would be none.
        for (int i = 0; i < 2000; i++) {
            run.act(new ArrayList<>());
            run.look(new ArrayList<>());
        }
    }

    private static void termsVertices() {
        sentence("VERTICES have numbers 0, 1, ..; at most 8.", """
            vertex INPUT 0 PASS = 0; vertex PLAIN 0 PASS = 1; vertex PLAIN 1 SUM = 2
            vertex PLAIN 2 STEP = 3; vertex ENTRY 1 PASS = 4; vertex EXIT 2 PASS = 5
            vertex BACK 1 PASS = 6; vertex INPUT 0 PASS = 7
            vertex INPUT 0 PASS = FULL
            points = 2
            """);
        sentence("0 INPUT (depth 0)", """
            vertex INPUT -1 PASS = BAD; vertex INPUT 1 PASS = BAD; vertex INPUT 2 PASS = BAD
            vertex INPUT MIN PASS = BAD; vertex INPUT MAX PASS = BAD
            vertex INPUT 0 PASS = 0
            """);
        sentence("A vertex has a KIND and a DEPTH 0 .. 2: .. 1 PLAIN", """
            vertex PLAIN -1 PASS = BAD; vertex PLAIN 3 PASS = BAD
            vertex PLAIN MIN PASS = BAD; vertex PLAIN MAX PASS = BAD
            vertex PLAIN 0 PASS = 0; vertex PLAIN 1 PASS = 1; vertex PLAIN 2 PASS = 2
            """);
        sentence("2 ENTRY (depth 1 or 2)", """
            vertex ENTRY -1 PASS = BAD; vertex ENTRY 0 PASS = BAD; vertex ENTRY 3 PASS = BAD
            vertex ENTRY MIN PASS = BAD; vertex ENTRY MAX PASS = BAD
            vertex ENTRY 1 PASS = 0; vertex ENTRY 2 PASS = 1
            """);
        sentence("3 EXIT (1 or 2)", """
            vertex EXIT -1 PASS = BAD; vertex EXIT 0 PASS = BAD; vertex EXIT 3 PASS = BAD
            vertex EXIT MIN PASS = BAD; vertex EXIT MAX PASS = BAD
            vertex EXIT 1 PASS = 0; vertex EXIT 2 PASS = 1
            """);
        sentence("4 BACK (1 or 2)", """
            vertex BACK -1 PASS = BAD; vertex BACK 0 PASS = BAD; vertex BACK 3 PASS = BAD
            vertex BACK MIN PASS = BAD; vertex BACK MAX PASS = BAD
            vertex BACK 1 PASS = 0; vertex BACK 2 PASS = 1
            """);
        sentence("Its IN depth is its depth, but one less for an entry", """
            graph pass 0, pass 1, pass 2, entry 1, entry 2
            edge 0 3 = 0; edge 1 3 = BAD; edge 2 3 = BAD
            edge 0 4 = BAD; edge 1 4 = 1; edge 2 4 = BAD
            """);
        sentence("Its IN depth is its depth: an exit's and a back's", """
            graph pass 0, pass 1, pass 2, exit 1, exit 2, back 1, back 2
            edge 0 3 = BAD; edge 1 3 = 0; edge 2 3 = BAD
            edge 0 4 = BAD; edge 1 4 = BAD; edge 2 4 = 1
            edge 0 5 = BAD; edge 1 5 = 2; edge 2 5 = BAD
            edge 0 6 = BAD; edge 1 6 = BAD; edge 2 6 = 3
            """);
        sentence("its OUT depth is its depth, but one less for an exit.", """
            graph pass 0, pass 1, pass 2, exit 1, exit 2
            edge 3 0 = 0; edge 3 1 = BAD; edge 3 2 = BAD
            edge 4 0 = BAD; edge 4 1 = 1; edge 4 2 = BAD
            """);
        sentence("its OUT depth is its depth: an entry's and a back's", """
            graph pass 0, pass 1, pass 2, entry 1, entry 2, back 1, back 2
            edge 3 0 = BAD; edge 3 1 = 0; edge 3 2 = BAD
            edge 4 0 = BAD; edge 4 1 = BAD; edge 4 2 = 1
            edge 5 0 = BAD; edge 5 1 = 2; edge 5 2 = BAD
            edge 6 0 = BAD; edge 6 1 = BAD; edge 6 2 = 3
            """);
        sentence("A plain one has a WORK: 0 PASS, 1 SUM, 2 STEP, 3 KEEP.", """
            graph input
            vertex PLAIN 0 -1 = BAD; vertex PLAIN 0 4 = BAD
            vertex PLAIN 0 0 = 1; vertex PLAIN 0 1 = 2; vertex PLAIN 0 2 = 3; vertex PLAIN 0 3 = 4
            vertex PLAIN 0 3 = 5
            edge 0 1 = 0; edge 0 2 = 1; edge 0 3 = 2; edge 0 4 = 3
            edge 1 5 = 4; edge 2 5 = 5; edge 3 5 = 6; edge 4 5 = 7
            start = 0
            put 0 3 = 0
            deliver 0 = 1; message 4 0 0 = 3
            deliver 1 = 0; waiting 5 = 0; requests = 1; request 0 0 = 2
            deliver 2 = 1; message 6 0 0 = 2
            deliver 3 = 0; waiting 7 = 0; requests = 1
            """);
    }

    private static void termsEdges() {
        sentence("EDGES have numbers 0, 1, ..; at most 12", """
            graph pass 0, pass 0, pass 0, pass 0, pass 0, pass 0 | 0>1 0>2 0>3 0>4 0>5 1>2 1>3 1>4 1>5 2>3 2>4
            waiting 11 = BAD
            edge 2 5 = 11
            waiting 11 = 0
            edge 3 4 = FULL
            waiting 12 = BAD
            """);
        sentence("EDGES .. at most 12: the last one carries messages like all others", """
            graph input, pass 0, pass 0, keep 0, keep 0, keep 0, keep 0 | 0>1 0>3 0>4 0>5 0>6 1>2 1>3 1>4 2>3 2>4 2>5 2>6
            start = 0
            put 0 9 = 0
            deliver 0 = 3; deliver 5 = 4
            waiting 11 = 1; message 11 0 0 = 9
            deliver 11 = 0; deliver 11 = NONE
            total 6 = 9
            deliver 12 = BAD
            """);
        sentence("each leads from a vertex to another one, or the same", """
            graph pass 0, back 1, back 2, pass 2
            edge 0 0 = 0; edge 1 1 = 1; edge 2 2 = 2; edge 2 3 = 3; edge 3 2 = 4
            """);
        sentence("to another one, or the same, whose in depth is the out depth of the first", """
            graph entry 1, entry 2, exit 1, exit 2
            edge 0 0 = BAD  # out of it 1, into it 0
            edge 1 1 = BAD
            edge 2 2 = BAD  # out of it 0, into it 1
            edge 3 3 = BAD
            edge 0 1 = 0; edge 1 0 = BAD
            edge 3 2 = 1; edge 2 3 = BAD
            edge 0 2 = 2; edge 2 0 = 3
            edge 1 3 = 4; edge 3 1 = 5
            edge 0 3 = BAD; edge 3 0 = BAD; edge 1 2 = BAD; edge 2 1 = BAD
            """);
        sentence("none leads to an input", """
            graph input, input, pass 0, exit 1
            edge 0 0 = BAD; edge 0 1 = BAD; edge 2 0 = BAD; edge 3 1 = BAD
            edge 0 2 = 0
            """);
        sentence("none is the same as an earlier one", """
            graph pass 0, pass 0, back 1
            edge 0 1 = 0; edge 0 1 = BAD
            edge 1 0 = 1  # the other way is another one
            edge 1 0 = BAD
            edge 2 2 = 2; edge 2 2 = BAD; edge 0 1 = BAD
            waiting 3 = BAD
            """);
        sentence("WHOLE if every ring of edges .. goes through a back: no edge, no ring", """
            graph pass 0, sum 1, step 2
            start = 0
            """);
        sentence("WHOLE if every ring of edges .. goes through a back: many ways, but no ring", """
            graph pass 0, pass 0, pass 0, pass 0 | 3>2 3>1 2>1 2>0 1>0 3>0
            start = 0
            """);
        sentence("WHOLE if every ring of edges .. goes through a back: a ring of one", """
            graph pass 2 | 0>0
            start = ILL
            """);
        sentence("WHOLE if every ring of edges .. goes through a back: a ring of a back alone", """
            graph back 2 | 0>0
            start = 0
            """);
        sentence("WHOLE if every ring of edges .. goes through a back: a ring of eight", """
            graph pass 1, pass 1, pass 1, pass 1, pass 1, pass 1, pass 1, pass 1 | 0>7 7>6 6>5 5>4 4>3 3>2 2>1
            edge 1 0 = 7
            start = ILL
            """);
        sentence("WHOLE if every ring of edges .. goes through a back: a line of eight", """
            graph pass 1, pass 1, pass 1, pass 1, pass 1, pass 1, pass 1, pass 1 | 0>7 7>6 6>5 5>4 4>3 3>2 2>1
            start = 0
            """);
        sentence("WHOLE if every ring of edges .. goes through a back: a ring of eight, one a back", """
            graph pass 1, pass 1, pass 1, back 1, pass 1, pass 1, pass 1, pass 1 | 0>7 7>6 6>5 5>4 4>3 3>2 2>1 1>0
            start = 0
            """);
        sentence("WHOLE if every ring of edges .. goes through a back: one of two rings does not", """
            graph back 1, pass 1, pass 1, pass 1 | 0>1 1>2 2>0 2>3 3>1
            start = ILL
            """);
        sentence("WHOLE if every ring of edges .. goes through a back: both of two rings do", """
            graph back 1, pass 1, pass 1, back 1 | 0>1 1>2 2>0 2>3 3>1
            start = 0
            """);
        sentence("WHOLE if every ring of edges .. goes through a back: by an exit and an entry is not enough", """
            graph entry 1, entry 2, exit 2, exit 1 | 0>1 1>2 2>3 3>0
            start = ILL
            """);
    }

    private static void termsTimes() {
        sentence("an EPOCH, 0 .. 15", """
            graph input, sum 0, keep 0 | 0>1 1>2
            start = 0
            put 0 1 = 0; message 0 0 1 = 0
            climb 0 1 15
            put 0 2 = 0; message 0 1 1 = 15
            advance 0 = LATE
            put 0 3 = 0; message 0 2 1 = 15
            deliver 0 = 0; deliver 0 = 0; deliver 0 = 0
            requests = 2; request 0 1 = 0; request 1 1 = 15; request 1 4 = 5
            fire 0 = 1; fire 0 = WAIT; close 0 = 0; fire 0 = 1
            message 1 1 1 = 15
            """);
        sentence("COUNTERS, each 0 .. 15: the only one", """
            graph input, entry 1, back 1, keep 1 | 0>1 1>2 2>2 2>3
            start = 0
            put 0 7 = 0; deliver 0 = 1
            message 1 0 2 = 0
            deliver 1 = 2
            14* deliver 3 = 0; deliver 2 = 2
            message 3 0 2 = 15; message 3 0 3 = 0; message 2 0 2 = 15
            deliver 2 = LATE
            """);
        sentence("COUNTERS, each 0 .. 15: both", """
            graph input, entry 1, step 1, back 1, entry 2, back 2, keep 2 | 0>1 1>2 2>3 3>2 2>4 4>5 5>5 5>6
            start = 0
            climb 0 1 15
            put 0 15 = 0; deliver 0 = 1; deliver 1 = 1
            15* deliver 2 = 1; deliver 3 = 1
            message 4 0 1 = 15; message 4 0 2 = 15; message 4 0 3 = 0
            deliver 4 = 1; deliver 5 = 2
            14* deliver 7 = 0; deliver 6 = 2
            message 6 0 1 = 15; message 6 0 2 = 15; message 6 0 3 = 15
            deliver 6 = LATE
            """);
        sentence("NOT LATER than the other if its epoch is not greater", """
            graph input, input, sum 0 | 0>2 1>2
            start = 0
            advance 0 = 1; put 0 5 = 0; deliver 0 = 0
            ahead 0 = 2   # one is less, one is the same
            advance 1 = 1; ahead 0 = 2
            advance 1 = 2; ahead 0 = 1
            fire 0 = WAIT
            advance 0 = 2; ahead 0 = 0
            fire 0 = 0
            """);
        sentence("and its counters are the same", """
            graph input, entry 1, sum 1 | 0>1 1>2
            start = 0
            put 0 5 = 0; put 0 6 = 0; close 0 = 0
            deliver 0 = 1; deliver 0 = 1; deliver 1 = 0
            ahead 0 = 1; fire 0 = WAIT
            deliver 1 = 0
            ahead 0 = 0; fire 0 = 0
            """);
        sentence("or less at the first place where they differ", """
            graph input, entry 1, back 1, entry 2, back 2, sum 2 | 0>1 1>2 1>3 2>3 3>5 3>4 4>4 4>5
            start = 0
            put 0 1 = 0; close 0 = 0
            deliver 0 = 2; deliver 2 = 2; deliver 5 = 2; deliver 6 = 2
            deliver 7 = 0; deliver 7 = 0; deliver 1 = 1; deliver 3 = 2; deliver 4 = 0; deliver 4 = 0
            request 0 2 = 0; request 0 3 = 0; ahead 0 = 0
            request 1 2 = 0; request 1 3 = 1; ahead 1 = 1
            request 2 2 = 0; request 2 3 = 2; ahead 2 = 2
            request 3 2 = 1; request 3 3 = 0
            ahead 3 = 4   # the requests, and what comes with (0, 3), but not what comes with (1, 1)
            """);
        sentence("So of two times it may be that neither is not later than the other.", """
            graph input, entry 1, back 1, sum 1 | 0>1 1>2 1>3 2>3
            start = 0
            put 0 1 = 0; deliver 0 = 2; advance 0 = 1; put 0 2 = 0; deliver 0 = 2; close 0 = 0
            deliver 1 = 1; deliver 3 = 0; deliver 2 = 0; deliver 2 = 0; deliver 1 = 1
            requests = 3; fire 0 = 0
            request 0 1 = 0; request 0 2 = 1; ahead 0 = 0
            request 1 1 = 1; request 1 2 = 0; ahead 1 = 0
            fire 1 = 0; fire 0 = 0
            """);
    }

    private static void termsMessages() {
        sentence("A MESSAGE on an edge has a value, an int", """
            graph input, pass 0, keep 0 | 0>1 1>2
            start = 0
            put 0 MIN = 0; put 0 MAX = 0; put 0 0 = 0; put 0 -1 = 0
            message 0 0 0 = MIN; message 0 1 0 = MAX; message 0 2 0 = 0; message 0 3 0 = -1
            4* deliver 0 = 1
            message 1 0 0 = MIN; message 1 1 0 = MAX; message 1 2 0 = 0; message 1 3 0 = -1
            """);
        sentence("a time of the in depth of the vertex to which the edge leads", """
            graph input, entry 1, entry 2, exit 2, exit 1, keep 0 | 0>1 1>2 2>3 3>4 4>5
            start = 0
            advance 0 = 1; put 0 5 = 0
            deliver 0 = 1; deliver 1 = 1; deliver 2 = 1; deliver 3 = 1
            message 4 0 0 = 5; message 4 0 1 = 1; message 4 0 2 = 0; message 4 0 3 = 0
            deliver 4 = 0
            total 5 = 5
            """);
        sentence("at most 6 are on an edge", """
            graph input, keep 0 | 0>1
            start = 0
            6* put 0 4 = 0
            waiting 0 = 6
            put 0 4 = FULL
            waiting 0 = 6
            deliver 0 = 0; put 0 4 = 0; put 0 4 = FULL
            """);
        sentence("in a line", """
            graph input, keep 0 | 0>1
            start = 0
            put 0 1 = 0; put 0 2 = 0; put 0 3 = 0; put 0 4 = 0; put 0 5 = 0; put 0 6 = 0
            deliver 0 = 0; total 1 = 1; put 0 7 = 0
            message 0 0 0 = 2; message 0 1 0 = 3; message 0 2 0 = 4; message 0 3 0 = 5
            message 0 4 0 = 6; message 0 5 0 = 7
            5* deliver 0 = 0
            total 1 = 21; message 0 0 0 = 7; message 0 1 0 = 0
            deliver 0 = 0; total 1 = 28; message 0 0 0 = 0
            """);
        sentence("for each two there is one at most", """
            graph input, sum 0, sum 0 | 0>1 0>2
            start = 0
            3* put 0 5 = 0
            deliver 0 = 0; deliver 0 = 0; deliver 0 = 0
            requests = 1; request 0 4 = 15
            deliver 1 = 0
            requests = 2  # the same time, but another vertex
            request 1 0 = 2; request 1 4 = 5
            """);
        sentence("at most 4 for a vertex", """
            graph input, sum 0, sum 0 | 0>1 0>2
            start = 0
            put 0 1 = 0; climb 0 1 1; put 0 1 = 0; climb 0 2 2; put 0 1 = 0; climb 0 3 3; put 0 1 = 0
            climb 0 4 4; put 0 1 = 0
            4* deliver 0 = 0
            requests = 4
            deliver 0 = FULL
            4* deliver 1 = 0
            requests = 8  # each vertex has its own
            deliver 1 = FULL
            fire 0 = 0; deliver 0 = 0; requests = 8; request 3 1 = 4; deliver 1 = FULL
            """);
        sentence("puts a message at the end of its edges, that is to say, of all that lead from it", """
            graph input, keep 0, keep 0, keep 0, keep 0, keep 0, keep 0, keep 0 | 0>1 0>2 0>3 0>4 0>5 0>6 0>7
            start = 0
            put 0 1 = 0; put 0 2 = 0
            message 0 1 0 = 2; message 3 1 0 = 2; message 6 0 0 = 1; message 6 1 0 = 2
            times 2 = 14
            """);
        sentence("To SEND .. of all that lead from it: of none", """
            graph input, input, entry 1, pass 0, sum 0, exit 1 | 0>2 0>3 0>4
            start = 0
            put 1 5 = 0; times 2 = 0
            put 0 5 = 0; times 2 = 3
            deliver 0 = 0; deliver 1 = 0; deliver 2 = 0; advance 0 = 1; fire 0 = 0
            times 2 = 3; total 2 = 5; total 3 = 5; total 4 = 5
            """);
        sentence("An input has an epoch, 0 at first", """
            graph input, input, keep 0 | 0>2 1>2
            start = 0
            put 0 1 = 0; put 1 1 = 0
            message 0 0 1 = 0; message 1 0 1 = 0
            advance 0 = 1; advance 1 = 1
            """);
        sentence("and is OPEN at first.", """
            graph input, input, keep 0 | 0>2
            points = 2
            start = 0
            points = 2; put 0 1 = 0; put 1 1 = 0; close 0 = 0; close 1 = 0
            points = 1
            """);
    }

    private static void termsDelivering() {
        sentence("v's TOTAL grows by x (wrapping)", """
            graph input, keep 0, keep 0 | 0>1
            start = 0
            put 0 MAX = 0; put 0 1 = 0; put 0 -1 = 0; put 0 MIN = 0
            deliver 0 = 0; total 1 = MAX
            deliver 0 = 0; total 1 = MIN
            deliver 0 = 0; total 1 = MAX
            deliver 0 = 0; total 1 = -1
            total 0 = 0; total 2 = 0
            """);
        sentence("v's TOTAL grows by x: at every kind, before any work", """
            graph input, entry 1, back 1, exit 1, step 0, sum 0, keep 0 | 0>1 1>2 2>3 3>4 4>5 5>6
            start = 0
            put 0 8 = 0; deliver 0 = 1; deliver 1 = 1; deliver 2 = 1; deliver 3 = 1; deliver 4 = 0
            close 0 = 0; fire 0 = 1; deliver 5 = 0
            total 0 = 0; total 1 = 8; total 2 = 8; total 3 = 8; total 4 = 8; total 5 = 7; total 6 = 7
            """);
        sentence("An entry sends x with t and a further counter 0", """
            graph input, entry 1, back 1, entry 2, keep 2 | 0>1 1>2 2>3 3>4
            start = 0
            advance 0 = 1; put 0 5 = 0
            deliver 0 = 1; message 1 0 1 = 1; message 1 0 2 = 0; message 1 0 3 = 0
            deliver 1 = 1; deliver 2 = 1
            message 3 0 0 = 5; message 3 0 1 = 1; message 3 0 2 = 1; message 3 0 3 = 0
            """);
        sentence("an exit with t without its last counter", """
            graph input, entry 1, back 1, entry 2, back 2, exit 2, exit 1, keep 0 | 0>1 1>2 2>3 3>4 4>4 4>5 5>6 6>7
            start = 0
            advance 0 = 1; put 0 5 = 0
            deliver 0 = 1; deliver 1 = 1; deliver 2 = 1; deliver 3 = 2; deliver 4 = 2
            message 5 1 1 = 1; message 5 1 2 = 1; message 5 1 3 = 2
            deliver 5 = 1; deliver 5 = 1
            message 6 1 0 = 5; message 6 1 1 = 1; message 6 1 2 = 1; message 6 1 3 = 0
            deliver 6 = 1; deliver 6 = 1
            message 7 1 0 = 5; message 7 1 1 = 1; message 7 1 2 = 0; message 7 1 3 = 0
            """);
        sentence("a back with t, the last counter being greater by 1", """
            graph input, entry 1, back 1, entry 2, back 2, keep 2 | 0>1 1>2 2>3 3>4 4>4 4>5
            start = 0
            put 0 5 = 0
            deliver 0 = 1; deliver 1 = 1
            message 2 0 0 = 5; message 2 0 1 = 0; message 2 0 2 = 1; message 2 0 3 = 0
            deliver 2 = 1; deliver 3 = 2
            message 5 0 0 = 5; message 5 0 1 = 0; message 5 0 2 = 1; message 5 0 3 = 1
            deliver 4 = 2
            message 5 1 0 = 5; message 5 1 1 = 0; message 5 1 2 = 1; message 5 1 3 = 2
            """);
        sentence("PASS sends x with t", """
            graph input, entry 1, pass 1, keep 1 | 0>1 1>2 2>3
            start = 0
            advance 0 = 1; put 0 MIN = 0
            deliver 0 = 1; deliver 1 = 1
            message 2 0 0 = MIN; message 2 0 1 = 1; message 2 0 2 = 0
            """);
        sentence("KEEP does nothing more", """
            graph input, keep 0, sum 0 | 0>1 1>2
            start = 0
            put 0 5 = 0; deliver 0 = 0
            waiting 1 = 0; total 1 = 5; requests = 0; times 2 = 1
            """);
        sentence("STEP sends x - 1 with t on the first of its edges .. if x is greater than 0", """
            graph input, step 0, keep 0, keep 0 | 0>1 1>2 1>3
            start = 0
            advance 0 = 1
            put 0 1 = 0; put 0 2 = 0; put 0 MAX = 0
            3* deliver 0 = 1
            message 1 0 0 = 0; message 1 1 0 = 1; message 1 2 0 = MAX-1
            message 1 0 1 = 1; waiting 1 = 3; waiting 2 = 0
            """);
        sentence("and otherwise x on the second one", """
            graph input, step 0, keep 0, keep 0 | 0>1 1>2 1>3
            start = 0
            advance 0 = 1
            put 0 0 = 0; put 0 -1 = 0; put 0 MIN = 0
            3* deliver 0 = 1
            message 2 0 0 = 0; message 2 1 0 = -1; message 2 2 0 = MIN
            message 2 0 1 = 1; waiting 1 = 0; waiting 2 = 3
            """);
        sentence("the first of its edges (that with the least number)", """
            graph input, step 0, keep 0, keep 0, keep 0 | 1>4 0>1 1>2 1>3
            start = 0
            put 0 1 = 0; put 0 0 = 0
            deliver 1 = 1; waiting 0 = 1; waiting 2 = 0; waiting 3 = 0
            deliver 1 = 1; waiting 0 = 1; waiting 2 = 1; waiting 3 = 0
            """);
        sentence("in both cases nothing if there is no such edge: no first one", """
            graph input, step 0 | 0>1
            start = 0
            put 0 1 = 0; put 0 0 = 0; put 0 -1 = 0
            deliver 0 = 0; deliver 0 = 0; deliver 0 = 0
            times 0 = 3; times 2 = 3; total 1 = 0
            """);
        sentence("in both cases nothing if there is no such edge: no second one", """
            graph input, step 0, keep 0 | 0>1 1>2
            start = 0
            put 0 0 = 0; put 0 -7 = 0; put 0 1 = 0
            deliver 0 = 0; deliver 0 = 0; waiting 1 = 0
            total 1 = -7
            deliver 0 = 1; waiting 1 = 1; times 2 = 4
            """);
        sentence("SUM adds x to what it gathers for t (0 at first; wrapping)", """
            graph input, sum 0 | 0>1
            start = 0
            put 0 MAX = 0; put 0 1 = 0; put 0 -1 = 0; put 0 MIN = 0
            deliver 0 = 0; request 0 4 = MAX
            deliver 0 = 0; request 0 4 = MIN
            deliver 0 = 0; request 0 4 = MAX
            deliver 0 = 0; request 0 4 = -1
            advance 0 = 1; put 0 2 = 0; deliver 0 = 0
            request 0 4 = -1; request 1 4 = 2
            """);
        sentence("and makes the request for v and t, if there is none.", """
            graph input, sum 0, keep 0 | 0>1 1>2
            start = 0
            put 0 0 = 0; put 0 0 = 0; requests = 0
            deliver 0 = 0; requests = 1; request 0 4 = 0   # for 0, too
            deliver 0 = 0; requests = 1
            waiting 1 = 0
            """);
        sentence("v sends what it gathered for t, with t", """
            graph input, entry 1, back 1, sum 1, keep 1, keep 1 | 0>1 1>2 2>3 3>4 3>5
            start = 0
            advance 0 = 1; put 0 3 = 0; put 0 4 = 0; close 0 = 0
            2* deliver 0 = 1; deliver 1 = 1; deliver 2 = 0
            fire 0 = 2
            message 3 0 0 = 7; message 3 0 1 = 1; message 3 0 2 = 1; message 3 0 3 = 0
            message 4 0 0 = 7; message 4 0 1 = 1; message 4 0 2 = 1; message 4 0 3 = 0
            """);
        sentence("and has gathered nothing for t then; the request is gone.", """
            graph input, entry 1, sum 1, back 1, exit 1 | 0>1 1>2 2>3 3>4 4>1
            start = 0
            put 0 5 = 0; close 0 = 0
            deliver 0 = 1; deliver 1 = 0
            fire 0 = 1; requests = 0; fire 0 = BAD
            deliver 2 = 1; deliver 3 = 1; deliver 4 = 1; deliver 1 = 0   # out of the loop and in again
            requests = 1; request 0 1 = 0; request 0 2 = 0
            request 0 4 = 5   # the same time, gathered anew
            fire 0 = 1
            """);
    }

    private static void termsPoints() {
        sentence("POINTS that are the same are one.", """
            graph input, keep 0, keep 0 | 0>1 0>2
            start = 0
            points = 1
            put 0 1 = 0; points = 3
            put 0 2 = 0; points = 3   # another value, but the same edge and time
            advance 0 = 1; points = 3
            put 0 2 = 0; points = 5   # the same edges, but another time
            deliver 0 = 0; points = 5
            deliver 0 = 0; points = 4
            """);
        sentence("POINTS that are the same are one: not with another one between them", """
            graph input, input, pass 0, keep 0 | 0>2 1>2 2>3
            start = 0
            advance 1 = 1
            put 0 1 = 0; put 1 2 = 0; put 0 3 = 0
            deliver 0 = 1; deliver 1 = 1; deliver 0 = 1
            waiting 2 = 3; points = 4
            """);
        sentence("POINTS are a place and a time: each counter tells two apart", """
            graph input, entry 1, back 1, entry 2, back 2, keep 2 | 0>1 1>3 1>2 2>3 3>4 4>4 4>5
            start = 0
            put 0 1 = 0; close 0 = 0; deliver 0 = 2; points = 2
            deliver 1 = 1; deliver 4 = 2; points = 3     # (0) on 2, (0, 1) on 5 and on 6
            deliver 2 = 1; deliver 3 = 1; deliver 4 = 2  # (1, 1) on 5 and on 6
            points = 4
            deliver 5 = 2                                # (0, 2) on 5 and on 6
            waiting 5 = 2; waiting 6 = 3; points = 5
            """);
        sentence("for each open input its vertex and its epoch (a time without counters)", """
            graph input, input, sum 0 | 0>2
            start = 0
            points = 2   # the same time, but two vertices
            put 0 1 = 0; deliver 0 = 0
            points = 3
            ahead 0 = 1  # no edge leads from the other input
            close 0 = 0; points = 2; ahead 0 = 0
            """);
        sentence("A point CAN COME TO a place: its own place with its time", """
            graph input, sum 0 | 0>1
            start = 0
            put 0 1 = 0; deliver 0 = 0; advance 0 = 1; put 0 2 = 0; deliver 0 = 0; close 0 = 0
            ahead 0 = 0   # the later request is at the place, but later
            ahead 1 = 1   # the earlier request is at the place, though no edge leads from it
            fire 1 = WAIT
            fire 0 = 0; fire 0 = 0
            """);
        sentence("from a vertex with t all edges that lead from it: whatever its work", """
            graph input, keep 0, step 0, sum 0, sum 0 | 0>1 0>2 0>3 1>3 2>4 2>3
            start = 0
            put 0 1 = 0; close 0 = 0
            deliver 2 = 0
            ahead 0 = 2   # the messages to KEEP and to STEP
            deliver 0 = 0; ahead 0 = 1
            deliver 1 = 1; ahead 0 = 0; waiting 4 = 1
            fire 0 = 0
            """);
        sentence("and so on from there: as far as can be", """
            graph sum 0, pass 0, pass 0, pass 0, pass 0, pass 0, pass 0, input | 1>0 2>1 3>2 4>3 5>4 6>5 7>6
            start = 0
            put 7 1 = 0
            deliver 6 = 1; deliver 5 = 1; deliver 4 = 1; deliver 3 = 1; deliver 2 = 1; deliver 1 = 1; deliver 0 = 0
            ahead 0 = 1; put 7 1 = 0; ahead 0 = 2; close 7 = 0; ahead 0 = 1; fire 0 = WAIT
            """);
        sentence("and so on from there: to a vertex where it has been, and earlier then", """
            graph input, entry 1, entry 2, pass 2, back 2, exit 2, exit 1, sum 2 | 3>7 2>3 1>2 6>1 5>6 4>5 3>4 4>3 0>1
            start = 0
            put 0 1 = 0; close 0 = 0
            deliver 8 = 1; deliver 2 = 1; deliver 1 = 2; deliver 0 = 0
            ahead 0 = 1
            deliver 6 = 2   # (0, 1) on the edges out of the loop and round in it
            message 7 0 3 = 1; ahead 0 = 2
            deliver 5 = 1; ahead 0 = 2; fire 0 = WAIT
            """);
        sentence("(it may be greater than 15 here)", """
            graph input, entry 1, back 1, exit 1, sum 0 | 0>1 1>2 2>2 2>3 3>4
            start = 0
            put 0 1 = 0; close 0 = 0; deliver 0 = 1; deliver 1 = 2; deliver 3 = 1; deliver 4 = 0
            14* deliver 2 = 2; deliver 3 = 1; deliver 4 = 0
            message 2 0 2 = 15; deliver 2 = LATE
            ahead 0 = 1   # by 16, and out of the loop
            fire 0 = WAIT
            """);
        sentence("(it may be greater than 15 here): a second counter of 17 is still less than a greater first", """
            graph input, entry 1, back 1, entry 2, step 2, back 2, back 2, sum 2 | 0>1 1>2 1>3 2>3 3>4 4>5 5>4 4>6 6>7 3>7
            start = 0
            put 0 16 = 0; close 0 = 0
            deliver 0 = 2; deliver 2 = 2; deliver 4 = 1
            15* deliver 5 = 1; deliver 6 = 1
            message 5 0 2 = 0; message 5 0 3 = 15; deliver 5 = LATE
            deliver 9 = 0; deliver 1 = 1; deliver 3 = 2; deliver 9 = 0
            request 0 2 = 0; request 0 3 = 0; request 1 2 = 1; request 1 3 = 0
            ahead 0 = 0
            ahead 1 = 2   # the other request, and what comes with (0, 17)
            """);
        sentence("A point is AHEAD of another one if it can come to the other's place: or it cannot", """
            graph input, sum 0, sum 0, keep 0 | 0>1 0>2 1>3 2>3
            start = 0
            put 0 1 = 0; close 0 = 0
            deliver 0 = 0; deliver 1 = 0
            ahead 0 = 0; ahead 1 = 0
            fire 0 = 1; ahead 0 = 0; fire 0 = 1
            """);
        sentence("A request is READY if no point under way but its own is ahead of its own.", """
            graph input, entry 1, sum 1, back 1, exit 1 | 0>1 1>2 2>3 3>4 4>1 3>2
            start = 0
            put 0 5 = 0; close 0 = 0; deliver 0 = 1; deliver 1 = 0
            ahead 0 = 0   # its own point could come to it again with its time
            fire 0 = 1; deliver 2 = 2; deliver 5 = 0
            request 0 2 = 1; ahead 0 = 1
            fire 0 = WAIT # another point of the same kind is not its own
            """);
    }

    private static void building() {
        sentence("FeedbackFlow(): No vertices; building.", """
            points = 0; requests = 0; total 0 = 0; waiting 0 = BAD; message 0 0 0 = 0
            times 0 = 0; times 1 = 0; times 2 = 0
            edge 0 0 = BAD; put 0 1 = BAD; advance 0 = BAD; close 0 = BAD; deliver 0 = BAD
            request 0 0 = BAD; ahead 0 = BAD; fire 0 = BAD
            vertex INPUT 0 PASS = 0
            """);
        sentence("FeedbackFlow(): No vertices: it may begin to run without any", """
            start = 0
            points = 0; put 0 1 = BAD; deliver 0 = BAD; fire 0 = BAD; requests = 0
            """);
        for (String work : List.of("PASS", "SUM", "STEP", "KEEP")) {
            sentence("the work counts for plain ones alone: " + work, """
                vertex INPUT 0 W = 0; vertex ENTRY 1 W = 1; vertex BACK 1 W = 2; vertex EXIT 1 W = 3
                vertex PLAIN 0 KEEP = 4; vertex PLAIN 0 KEEP = 5
                edge 0 1 = 0; edge 1 2 = 1; edge 2 3 = 2; edge 3 4 = 3; edge 3 5 = 4
                start = 0
                put 0 5 = 0; deliver 0 = 1; deliver 1 = 1; deliver 2 = 2
                message 3 0 0 = 5; message 4 0 0 = 5; requests = 0
                """.replace("W", work));
        }
        sentence("vertex: BAD when not building", """
            graph input
            start = 0
            vertex PLAIN 0 PASS = BAD; vertex INPUT 0 PASS = BAD
            """);
        sentence("vertex: BAD when .. kind is not 0 .. 4", """
            vertex -1 0 PASS = BAD; vertex -1 1 PASS = BAD; vertex 5 0 PASS = BAD; vertex 5 1 PASS = BAD
            vertex MIN 1 PASS = BAD; vertex MAX 1 PASS = BAD
            vertex 0 0 PASS = 0; vertex 4 1 PASS = 1
            """);
        sentence("vertex: BAD when .. work is not 0 .. 3", """
            vertex PLAIN 0 -1 = BAD; vertex PLAIN 0 4 = BAD; vertex PLAIN 0 MIN = BAD; vertex PLAIN 0 MAX = BAD
            vertex INPUT 0 -1 = BAD; vertex INPUT 0 4 = BAD; vertex ENTRY 1 4 = BAD
            vertex EXIT 1 -1 = BAD; vertex BACK 1 4 = BAD
            vertex INPUT 0 3 = 0
            """);
        String eight = "graph pass 0, pass 0, pass 0, pass 0, pass 0, pass 0, pass 0, pass 0\n";
        sentence("vertex: else FULL when there are 8", eight + """
            vertex PLAIN 0 PASS = FULL
            vertex -1 0 PASS = BAD; vertex 5 0 PASS = BAD; vertex PLAIN 3 PASS = BAD
            vertex INPUT 1 PASS = BAD; vertex PLAIN 0 4 = BAD
            total 7 = 0; edge 0 7 = 0; edge 0 8 = BAD
            """);
        sentence("vertex: BAD when not building .. else FULL when there are 8", eight + """
            start = 0
            vertex PLAIN 0 PASS = BAD
            """);
        sentence("edge: BAD when not building", """
            graph pass 0, pass 0 | 0>1
            start = 0
            edge 1 0 = BAD; edge 0 1 = BAD
            waiting 1 = BAD
            """);
        sentence("edge: BAD when .. one of the vertices is none", """
            graph pass 0, pass 0
            edge -1 0 = BAD; edge 0 -1 = BAD; edge 2 0 = BAD; edge 0 2 = BAD; edge 8 0 = BAD; edge 0 8 = BAD
            edge MIN 0 = BAD; edge 0 MIN = BAD; edge MAX 0 = BAD; edge 0 MAX = BAD; edge 2 2 = BAD
            edge 1 0 = 0
            """);
        String twelve = "graph input, pass 0, pass 0, pass 0, pass 0, pass 0, pass 1"
            + " | 0>1 0>2 0>3 0>4 0>5 1>2 1>3 1>4 1>5 2>3 2>4 2>5\n";
        sentence("edge: else FULL when there are 12", twelve + """
            edge 3 4 = FULL
            edge 0 1 = BAD; edge 2 5 = BAD   # the same as an earlier one
            edge 1 0 = BAD; edge 1 6 = BAD   # to an input, and to another depth
            edge 7 1 = BAD; edge 1 7 = BAD; edge -1 1 = BAD
            start = 0
            edge 3 4 = BAD
            """);
        sentence("start: the run begins, and building ends: 0.", """
            graph input, keep 0 | 0>1
            put 0 1 = BAD; advance 0 = BAD; close 0 = BAD; deliver 0 = BAD
            start = 0
            vertex PLAIN 0 PASS = BAD; edge 0 1 = BAD; edge 1 1 = BAD
            put 0 1 = 0; advance 0 = 1; close 0 = 0; deliver 0 = 0
            """);
        sentence("start: BAD when not building", """
            graph back 1 | 0>0
            start = 0
            start = BAD; start = BAD
            """);
        sentence("start: else ILL when the graph is not whole", """
            graph input, pass 0, pass 0 | 0>1 1>2 2>1
            start = ILL; start = ILL
            put 0 1 = BAD; deliver 0 = BAD
            vertex PLAIN 0 PASS = 3; edge 2 3 = 3   # it goes on building
            start = ILL
            """);
    }

    /** Rows that take a message from each of so many edges, but not from the full one. */
    private static String emptied(int edges, int full) {
        StringBuilder rows = new StringBuilder();
        for (int e = 0; e < edges; e++) {
            rows.append(e == full ? "" : "deliver " + e + " = 0\n");
        }
        return rows.toString();
    }

    private static void inputs() {
        String noInputs = """
            graph input, keep 0, entry 1, exit 1, back 1 | 0>1
            CALL 0 = BAD
            start = 0
            CALL 1 = BAD; CALL 2 = BAD; CALL 3 = BAD; CALL 4 = BAD
            CALL -1 = BAD; CALL 5 = BAD; CALL 8 = BAD; CALL MIN = BAD; CALL MAX = BAD
            """;
        sentence("put: BAD when the run has not begun, or v is no input",
            noInputs.replaceAll("CALL ([^ ]+)", "put $1 7"));
        sentence("advance: BAD when the run has not begun, or v is no input",
            noInputs.replaceAll("CALL", "advance"));
        sentence("close: BAD when the run has not begun, or v is no input",
            noInputs.replaceAll("CALL", "close"));
        sentence("put: Sends a value with its epoch from an input: 0.", """
            graph input, input, keep 0, keep 0 | 0>2 0>3 1>3
            start = 0
            put 0 4 = 0; advance 0 = 1; put 0 5 = 0; put 1 6 = 0
            message 0 0 0 = 4; message 0 0 1 = 0; message 0 1 0 = 5; message 0 1 1 = 1
            message 1 1 0 = 5; message 1 1 1 = 1; message 2 0 0 = 6; message 2 0 1 = 0
            total 2 = 0; total 0 = 0
            """);
        sentence("put: else NONE when it is not open", """
            graph input, input, keep 0 | 0>2 1>2
            start = 0
            6* put 0 1 = 0
            close 0 = 0
            put 0 1 = NONE    # rather than FULL
            put 1 1 = 0
            deliver 0 = 0; put 0 1 = NONE
            """);
        sentence("put: else FULL when one of its edges has 6 messages", """
            graph input, keep 0, keep 0, keep 0 | 0>1 0>2 0>3
            start = 0
            6* put 0 1 = 0
            put 0 1 = FULL
            deliver 0 = 0; deliver 1 = 0
            put 0 1 = FULL; waiting 0 = 5; waiting 1 = 5; times 2 = 18
            deliver 2 = 0
            put 0 2 = 0; waiting 0 = 6; waiting 2 = 6
            deliver 1 = 0; deliver 2 = 0
            put 0 1 = FULL
            """);
        for (int full = 0; full < 7; full++) {
            sentence("put: else FULL when one of its edges has 6 messages: edge " + full + " alone",
                """
                graph input, keep 0, keep 0, keep 0, keep 0, keep 0, keep 0, keep 0 | 0>1 0>2 0>3 0>4 0>5 0>6 0>7
                start = 0
                6* put 0 1 = 0
                """ + emptied(7, full) + "put 0 1 = FULL; deliver " + full + " = 0; put 0 1 = 0\n");
        }
        sentence("put: else FULL when one of its edges has 6: of its own", """
            graph input, input, input, keep 0 | 0>3 1>3
            start = 0
            6* put 0 1 = 0
            put 0 1 = FULL
            6* put 1 1 = 0
            20* put 2 1 = 0   # it has no edge to be full
            times 2 = 12
            """);
        sentence("advance: The epoch of an input grows by 1: the epoch then.", """
            graph input, input, keep 0 | 0>2 1>2
            start = 0
            advance 0 = 1; advance 0 = 2; advance 1 = 1
            put 0 1 = 0; put 1 1 = 0; message 0 0 1 = 2; message 1 0 1 = 1
            """);
        sentence("advance: else NONE when it is not open; else LATE when it is 15", """
            graph input, input, keep 0 | 0>2 1>2
            start = 0
            climb 0 1 14
            advance 0 = 15
            advance 0 = LATE; advance 0 = LATE
            put 0 1 = 0; message 0 0 1 = 15
            advance 1 = 1
            close 0 = 0; advance 0 = NONE    # rather than LATE
            close 1 = 0; advance 1 = NONE
            """);
        sentence("close: An input is not open any more: 0 .. else NONE when it is not open", """
            graph input, input, keep 0 | 0>2 1>2
            start = 0
            put 0 1 = 0; points = 3
            close 0 = 0; points = 2; waiting 0 = 1
            close 0 = NONE; close 0 = NONE
            close 1 = 0; close 1 = NONE
            points = 1; deliver 0 = 0; points = 0
            """);
    }

    private static void delivering() {
        sentence("deliver: the number of messages that are sent by that", """
            graph input, pass 0, keep 0, keep 0, keep 0, keep 0, keep 0, keep 0 | 0>1 1>2 1>3 1>4 1>5 1>6 1>7
            start = 0
            put 0 3 = 0; deliver 0 = 6; deliver 6 = 0
            times 0 = 2; times 2 = 7; total 7 = 3; waiting 5 = 1
            """);
        sentence("deliver: BAD when the run has not begun, or there is no such edge", """
            graph input, keep 0 | 0>1
            deliver 0 = BAD
            start = 0
            deliver -1 = BAD; deliver 1 = BAD; deliver 12 = BAD; deliver MIN = BAD; deliver MAX = BAD
            """);
        sentence("deliver: else NONE when it has no message", """
            graph input, keep 0, back 1 | 0>1 2>2
            start = 0
            deliver 0 = NONE; deliver 1 = NONE
            put 0 1 = 0; deliver 0 = 0; deliver 0 = NONE
            times 0 = 1
            """);
        sentence("deliver: else LATE when it leads to a back (with edges or without): with", """
            graph input, entry 1, step 1, back 1 | 0>1 1>2 2>3 3>2
            start = 0
            put 0 17 = 0; deliver 0 = 1; deliver 1 = 1
            15* deliver 2 = 1; deliver 3 = 1
            message 2 0 2 = 15; deliver 2 = LATE; deliver 2 = LATE
            waiting 2 = 1; total 3 = 135; times 0 = 32
            """);
        sentence("deliver: else LATE when it leads to a back (with edges or without): without", """
            graph input, entry 1, step 1, back 1, back 1 | 0>1 1>2 2>3 3>2 2>4
            start = 0
            put 0 14 = 0; put 0 15 = 0; deliver 0 = 1; deliver 0 = 1; deliver 1 = 1; deliver 1 = 1
            14* deliver 2 = 1; deliver 3 = 1; deliver 2 = 1; deliver 3 = 1
            message 4 0 2 = 14; deliver 4 = 0
            deliver 2 = 1; deliver 3 = 1
            message 4 0 2 = 15; deliver 4 = LATE; waiting 4 = 1
            """);
        sentence("deliver: else LATE when .. the last counter is 15: not when the first of two is", """
            graph input, entry 1, step 1, back 1, entry 2, back 2, exit 2, back 1 | 0>1 1>2 2>3 3>2 2>4 4>5 5>6 6>7
            start = 0
            put 0 15 = 0; deliver 0 = 1; deliver 1 = 1
            15* deliver 2 = 1; deliver 3 = 1
            deliver 4 = 1; message 5 0 2 = 15; message 5 0 3 = 0
            deliver 5 = 1; message 6 0 2 = 15; message 6 0 3 = 1
            deliver 6 = 1
            message 7 0 2 = 15; deliver 7 = LATE   # here it is the last one
            """);
        sentence("deliver: else LATE when it leads to a back: not to another kind", """
            graph input, entry 1, step 1, back 1, pass 1, exit 1, sum 0, sum 1 | 0>1 1>2 2>3 3>2 2>4 4>5 4>7 5>6
            start = 0
            put 0 15 = 0; deliver 0 = 1; deliver 1 = 1
            15* deliver 2 = 1; deliver 3 = 1
            message 4 0 2 = 15; deliver 4 = 2; deliver 5 = 1; deliver 6 = 0; deliver 7 = 0
            request 1 0 = 7; request 1 2 = 15
            """);
        sentence("deliver: else LATE .. else FULL", """
            graph input, entry 1, back 1, keep 1 | 0>1 1>2 2>2 2>3
            start = 0
            put 0 1 = 0; deliver 0 = 1; deliver 1 = 2
            9* deliver 3 = 0; deliver 2 = 2
            5* deliver 2 = 2
            waiting 3 = 6; message 2 0 2 = 15
            deliver 2 = LATE   # and full
            deliver 3 = 0; deliver 2 = LATE
            """);
        sentence("deliver: else FULL when an edge on which a message is to be put would have more than 6 then", """
            graph input, pass 0, keep 0, keep 0 | 0>1 1>2 1>3
            start = 0
            6* put 0 1 = 0; deliver 0 = 2
            put 0 1 = 0
            deliver 0 = FULL
            deliver 1 = 0; deliver 0 = FULL
            deliver 2 = 0; deliver 1 = 0; deliver 0 = 2
            waiting 1 = 5; waiting 2 = 6
            put 0 1 = 0; deliver 0 = FULL
            """);
        sentence("deliver: else FULL: an entry, an exit and a back", """
            graph input, entry 1, back 1, exit 1, keep 0 | 0>1 1>2 2>3 3>4
            start = 0
            6* put 0 1 = 0; deliver 0 = 1; deliver 1 = 1; deliver 2 = 1
            6* put 0 1 = 0; deliver 0 = 1; deliver 1 = 1
            6* put 0 1 = 0; deliver 0 = 1
            put 0 1 = 0
            deliver 0 = FULL; deliver 1 = FULL; deliver 2 = FULL
            deliver 3 = 0
            deliver 2 = 1; deliver 1 = 1; deliver 0 = 1
            """);
        sentence("deliver: else FULL .. (the one that is taken is gone before)", """
            graph input, entry 1, back 1 | 0>1 1>2 2>2
            start = 0
            6* put 0 1 = 0; deliver 0 = 1; deliver 1 = 1
            put 0 9 = 0; deliver 0 = 1
            deliver 1 = FULL   # nothing is taken from the full edge here
            waiting 2 = 6; deliver 2 = 1; waiting 2 = 6
            message 2 0 2 = 1; message 2 5 2 = 2
            """);
        sentence("deliver: else FULL .. (the one that is taken is gone before): but from no other edge", """
            graph input, entry 1, back 1, keep 1 | 0>1 1>2 2>2 2>3
            start = 0
            6* put 0 1 = 0; deliver 0 = 1; deliver 1 = 2
            deliver 2 = FULL
            deliver 3 = 0; deliver 2 = 2
            waiting 2 = 6; waiting 3 = 6
            """);
        sentence("deliver: else FULL: STEP looks at the edge that it takes alone", """
            graph input, step 0, keep 0, keep 0 | 0>1 1>2 1>3
            start = 0
            6* put 0 1 = 0; deliver 0 = 1
            put 0 0 = 0; deliver 0 = 1; waiting 2 = 1
            put 0 1 = 0; deliver 0 = FULL
            deliver 1 = 0; deliver 0 = 1
            5* put 0 -1 = 0; deliver 0 = 1
            deliver 1 = 0; put 0 1 = 0; deliver 0 = 1
            put 0 0 = 0; deliver 0 = FULL
            deliver 2 = 0; deliver 0 = 1
            """);
        sentence("deliver: else FULL: STEP without a second edge, the first being full", """
            graph input, step 0, keep 0 | 0>1 1>2
            start = 0
            6* put 0 1 = 0; deliver 0 = 1
            put 0 0 = 0; deliver 0 = 0
            put 0 1 = 0; deliver 0 = FULL
            """);
        sentence("deliver: else FULL: not for KEEP and SUM, which put nothing then", """
            graph input, sum 0, keep 0, keep 0 | 0>1 1>2 0>3 3>2
            start = 0
            put 0 1 = 0; deliver 0 = 0; deliver 2 = 0; advance 0 = 1; fire 0 = 1
            put 0 1 = 0; deliver 0 = 0; deliver 2 = 0; advance 0 = 2; fire 0 = 1
            put 0 1 = 0; deliver 0 = 0; deliver 2 = 0; advance 0 = 3; fire 0 = 1
            put 0 1 = 0; deliver 0 = 0; deliver 2 = 0; advance 0 = 4; fire 0 = 1
            put 0 1 = 0; deliver 0 = 0; deliver 2 = 0; advance 0 = 5; fire 0 = 1
            put 0 1 = 0; deliver 0 = 0; deliver 2 = 0; advance 0 = 6; fire 0 = 1
            waiting 1 = 6; put 0 1 = 0
            deliver 0 = 0; requests = 1
            deliver 2 = 0; waiting 3 = 0
            """);
        sentence("deliver: or a request is to be made and the vertex has 4", """
            graph input, input, sum 0 | 0>2 1>2
            start = 0
            put 0 1 = 0; advance 0 = 1; put 0 1 = 0; advance 0 = 2; put 0 1 = 0; advance 0 = 3; put 0 1 = 0
            advance 0 = 4; put 0 1 = 0
            4* deliver 0 = 0
            deliver 0 = FULL; deliver 0 = FULL
            requests = 4; total 2 = 4; waiting 0 = 1
            put 1 7 = 0; deliver 1 = 0     # for a time with a request there is none to be made
            requests = 4; request 0 4 = 8
            climb 1 1 3; put 1 9 = 0; deliver 1 = 0
            requests = 4; request 3 4 = 10
            climb 1 4 5; put 1 1 = 0; deliver 1 = FULL
            fire 0 = 0; deliver 0 = 0; requests = 4; request 3 1 = 4
            deliver 1 = FULL
            """);
        sentence("deliver: What is refused changes nothing.", """
            graph input, pass 0, sum 0, keep 0, keep 0 | 0>1 1>3 1>2 1>4
            start = 0
            put 0 5 = 0; deliver 0 = 3; advance 0 = 1
            put 0 6 = 0; deliver 0 = 3; advance 0 = 2
            put 0 7 = 0; deliver 0 = 3; advance 0 = 3
            put 0 8 = 0; deliver 0 = 3; advance 0 = 4
            2* put 0 9 = 0; deliver 0 = 3
            3* deliver 1 = 0
            4* deliver 2 = 0
            put 0 10 = 0
            deliver 0 = FULL      # edge 1 has room, edge 3 has none
            deliver 2 = FULL      # a fifth request
            waiting 0 = 1; waiting 1 = 3; waiting 2 = 2; waiting 3 = 6
            message 0 0 0 = 10; message 2 0 0 = 9; total 1 = 44; total 2 = 26; requests = 4
            times 0 = 13; times 2 = 25; points = 14
            """);
    }

    private static void requests() {
        sentence("requests: How many requests there are: none", """
            graph input, sum 0 | 0>1
            requests = 0
            start = 0
            requests = 0; put 0 1 = 0; requests = 0; deliver 0 = 0; requests = 1
            close 0 = 0; fire 0 = 0; requests = 0
            """);
        sentence("requests: How many requests there are: as many as can be", """
            graph input, sum 0, sum 0, sum 0, sum 0, sum 0, sum 0, sum 0 | 0>1 0>2 0>3 0>4 0>5 0>6 0>7
            start = 0
            put 0 1 = 0; advance 0 = 1; put 0 2 = 0; advance 0 = 2; put 0 3 = 0; advance 0 = 3; put 0 4 = 0
            4* deliver 0 = 0; deliver 1 = 0; deliver 2 = 0; deliver 3 = 0; deliver 4 = 0; deliver 5 = 0; deliver 6 = 0
            requests = 28
            request 27 0 = 7; request 27 1 = 3; request 27 4 = 4; ahead 27 = 4
            request 28 0 = BAD; ahead 28 = BAD; fire 28 = BAD
            fire 27 = WAIT; fire 24 = 0; requests = 27; request 27 0 = BAD; request 26 4 = 4
            """);
        sentence("by growing vertices, then epochs, then first, then second counters: vertices", """
            graph sum 0, input, sum 0, sum 0 | 1>3 1>0 1>2
            start = 0
            put 1 1 = 0; advance 1 = 1; put 1 2 = 0
            deliver 0 = 0; deliver 0 = 0; deliver 2 = 0; deliver 1 = 0; deliver 1 = 0
            requests = 5
            request 0 0 = 0; request 0 1 = 0; request 1 0 = 0; request 1 1 = 1; request 2 0 = 2; request 2 1 = 0
            request 3 0 = 3; request 3 1 = 0; request 4 0 = 3; request 4 1 = 1
            """);
        sentence("by growing vertices, then epochs, then first, then second counters: epochs", """
            graph input, input, entry 1, back 1, sum 1 | 0>2 1>2 2>3 2>4 3>4
            start = 0
            advance 1 = 1; put 1 8 = 0; put 0 5 = 0
            deliver 1 = 2; deliver 3 = 0
            deliver 0 = 2; deliver 2 = 1; deliver 2 = 1; deliver 4 = 0; deliver 4 = 0
            requests = 3
            request 0 1 = 0; request 0 2 = 1; request 0 4 = 5
            request 1 1 = 1; request 1 2 = 0; request 1 4 = 8
            request 2 1 = 1; request 2 2 = 1; request 2 4 = 8
            """);
        sentence("by growing vertices, then epochs, then first, then second counters: counters", """
            graph input, entry 1, back 1, entry 2, back 2, sum 2 | 0>1 1>2 1>3 2>3 3>5 3>4 4>4 4>5
            start = 0
            put 0 1 = 0; deliver 0 = 2; deliver 1 = 1; deliver 3 = 2; deliver 5 = 2; deliver 7 = 0
            deliver 4 = 0
            deliver 2 = 2; deliver 5 = 2; deliver 7 = 0; deliver 4 = 0
            requests = 4
            request 0 2 = 0; request 0 3 = 0; request 1 2 = 0; request 1 3 = 1
            request 2 2 = 1; request 2 3 = 0; request 3 2 = 1; request 3 3 = 1
            """);
        sentence("request: 2, 3: the first and second counter (0 where there is none)", """
            graph input, sum 0, entry 1, back 1, sum 1, entry 2, back 2, sum 2 | 0>1 0>2 2>3 3>4 3>5 5>6 6>7
            start = 0
            advance 0 = 1; put 0 9 = 0
            deliver 0 = 0; deliver 1 = 1; deliver 2 = 2; deliver 3 = 0; deliver 4 = 1; deliver 5 = 1; deliver 6 = 0
            request 0 0 = 1; request 0 1 = 1; request 0 2 = 0; request 0 3 = 0; request 0 4 = 9
            request 1 0 = 4; request 1 1 = 1; request 1 2 = 1; request 1 3 = 0; request 1 4 = 9
            request 2 0 = 7; request 2 1 = 1; request 2 2 = 1; request 2 3 = 1; request 2 4 = 9
            """);
        sentence("request: BAD when there is no such request, or what is not 0 .. 4", """
            graph input, sum 0 | 0>1
            request 0 0 = BAD; request -1 0 = BAD
            start = 0
            request 0 0 = BAD
            put 0 5 = 0; deliver 0 = 0
            request 0 0 = 1; request 0 4 = 5
            request 0 -1 = BAD; request 0 5 = BAD; request 0 MIN = BAD; request 0 MAX = BAD
            request -1 0 = BAD; request 1 0 = BAD; request MIN 4 = BAD; request MAX 4 = BAD
            request 1 5 = BAD; request -1 -1 = BAD
            """);
        sentence("ahead: How many points under way, but its own, are ahead of that of a request", """
            graph input, input, sum 0, pass 0 | 0>2 1>3 3>2
            start = 0
            put 0 1 = 0; deliver 0 = 0; ahead 0 = 2
            put 0 1 = 0; put 0 2 = 0; ahead 0 = 3   # two messages, one point
            put 1 1 = 0; put 1 2 = 0; deliver 1 = 1; ahead 0 = 5
            close 1 = 0; ahead 0 = 4; deliver 1 = 1; ahead 0 = 3
            advance 0 = 1; ahead 0 = 2; put 0 5 = 0; ahead 0 = 2
            deliver 0 = 0; deliver 0 = 0; ahead 0 = 1; deliver 2 = 0; deliver 2 = 0; ahead 0 = 0
            request 0 4 = 7
            """);
        sentence("ahead: BAD when there is no such request", """
            graph input, sum 0 | 0>1
            ahead 0 = BAD
            start = 0
            ahead 0 = BAD; put 0 1 = 0; ahead 0 = BAD; deliver 0 = 0; ahead 0 = 1
            ahead 1 = BAD; ahead -1 = BAD; ahead MIN = BAD; ahead MAX = BAD
            advance 0 = 1; fire 0 = 0; ahead 0 = BAD
            """);
        sentence("fire: the number of messages that are sent", """
            graph input, sum 0, sum 0, sum 0, keep 0, keep 0 | 0>1 0>2 0>3 2>4 3>4 3>5
            start = 0
            put 0 1 = 0; deliver 0 = 0; deliver 1 = 0; deliver 2 = 0; close 0 = 0
            fire 0 = 0; fire 0 = 1; fire 0 = 2
            times 1 = 3; times 2 = 6; requests = 0
            """);
        sentence("fire: BAD when there is none with that number", """
            graph input, sum 0 | 0>1
            fire 0 = BAD
            start = 0
            fire 0 = BAD; put 0 1 = 0; deliver 0 = 0; advance 0 = 1
            fire -1 = BAD; fire 1 = BAD; fire MIN = BAD; fire MAX = BAD
            fire 0 = 0; fire 0 = BAD
            """);
        String sixFired = """
            graph input, sum 0, keep 0, keep 0 | 0>1 1>2 1>3
            start = 0
            put 0 1 = 0; deliver 0 = 0; advance 0 = 1; fire 0 = 2
            put 0 1 = 0; deliver 0 = 0; advance 0 = 2; fire 0 = 2
            put 0 1 = 0; deliver 0 = 0; advance 0 = 3; fire 0 = 2
            put 0 1 = 0; deliver 0 = 0; advance 0 = 4; fire 0 = 2
            put 0 1 = 0; deliver 0 = 0; advance 0 = 5; fire 0 = 2
            put 0 1 = 0; deliver 0 = 0; advance 0 = 6; fire 0 = 2
            put 0 7 = 0; deliver 0 = 0
            """;
        sentence("fire: else WAIT when it is not ready; else FULL", sixFired + """
            fire 0 = WAIT     # and full
            advance 0 = 7; fire 0 = FULL
            """);
        sentence("fire: else FULL when an edge on which a message is to be put has 6", sixFired + """
            close 0 = 0; waiting 1 = 6; waiting 2 = 6
            fire 0 = FULL; fire 0 = FULL
            deliver 1 = 0; fire 0 = FULL
            requests = 1; request 0 4 = 7; times 1 = 6; waiting 1 = 5
            deliver 2 = 0; deliver 1 = 0; fire 0 = 2
            waiting 1 = 5; waiting 2 = 6; times 1 = 7
            """);
        for (int full = 0; full < 6; full++) {
            sentence("fire: else FULL when an edge .. has 6: edge " + full + " alone", """
                graph input, sum 0, keep 0, keep 0, keep 0, keep 0, keep 0, keep 0 | 1>2 1>3 1>4 1>5 1>6 1>7 0>1
                start = 0
                put 0 1 = 0; deliver 6 = 0; advance 0 = 1; fire 0 = 6
                put 0 1 = 0; deliver 6 = 0; advance 0 = 2; fire 0 = 6
                put 0 1 = 0; deliver 6 = 0; advance 0 = 3; fire 0 = 6
                put 0 1 = 0; deliver 6 = 0; advance 0 = 4; fire 0 = 6
                put 0 1 = 0; deliver 6 = 0; advance 0 = 5; fire 0 = 6
                put 0 1 = 0; deliver 6 = 0; advance 0 = 6; fire 0 = 6
                put 0 1 = 0; deliver 6 = 0; close 0 = 0
                """ + emptied(6, full) + "fire 0 = FULL; deliver " + full + " = 0; fire 0 = 6\n");
        }
    }

    private static void looks() {
        sentence("waiting: How many messages are on an edge; BAD when there is no such edge", """
            graph input, keep 0 | 0>1
            waiting 0 = 0
            start = 0
            waiting 0 = 0; put 0 1 = 0; waiting 0 = 1
            5* put 0 1 = 0
            waiting 0 = 6; deliver 0 = 0; waiting 0 = 5
            waiting -1 = BAD; waiting 1 = BAD; waiting 12 = BAD; waiting MIN = BAD; waiting MAX = BAD
            """);
        sentence("message: 2, 3: the first and second counter (0 where there is none)", """
            graph input, entry 1, back 1, entry 2, back 2, keep 2 | 0>1 1>2 2>3 3>4 4>5
            start = 0
            climb 0 1 3; put 0 9 = 0
            message 0 0 0 = 9; message 0 0 1 = 3; message 0 0 2 = 0; message 0 0 3 = 0
            deliver 0 = 1; deliver 1 = 1
            message 2 0 0 = 9; message 2 0 1 = 3; message 2 0 2 = 1; message 2 0 3 = 0
            deliver 2 = 1; deliver 3 = 1
            message 4 0 0 = 9; message 4 0 1 = 3; message 4 0 2 = 1; message 4 0 3 = 1
            """);
        sentence("message: 0 when there is no such message", """
            graph input, keep 0, keep 0 | 0>1
            message 0 0 0 = 0
            start = 0
            climb 0 1 2
            6* put 0 9 = 0
            message 0 5 0 = 9; message 0 5 1 = 2
            message 0 6 0 = 0; message 0 6 1 = 0; message 0 -1 0 = 0; message 0 -1 1 = 0
            message 0 MIN 0 = 0; message 0 MAX 0 = 0
            message 1 0 0 = 0; message -1 0 0 = 0; message 12 0 0 = 0; message MIN 0 0 = 0; message MAX 0 0 = 0
            deliver 0 = 0; message 0 5 0 = 0; message 0 5 1 = 0; message 0 4 0 = 9
            5* deliver 0 = 0
            message 0 0 0 = 0; message 0 0 1 = 0
            """);
        sentence("message: 0 when .. what is not 0 .. 3", """
            graph input, entry 1, back 1, entry 2, back 2, keep 2 | 0>1 1>2 2>3 3>4 4>5
            start = 0
            climb 0 1 15
            put 0 9 = 0; deliver 0 = 1; deliver 1 = 1; deliver 2 = 1; deliver 3 = 1
            message 4 0 0 = 9; message 4 0 1 = 15; message 4 0 2 = 1; message 4 0 3 = 1
            message 4 0 -1 = 0; message 4 0 -2 = 0; message 4 0 4 = 0; message 4 0 5 = 0
            message 4 0 MIN = 0; message 4 0 MAX = 0
            """);
        sentence("total: The total of a vertex; 0 when there is none", """
            graph input, pass 0, pass 0, pass 0, pass 0, pass 0, keep 0 | 0>1 1>6
            total 1 = 0; total 7 = 0
            vertex PLAIN 0 KEEP = 7
            edge 0 7 = 2
            start = 0
            put 0 -5 = 0; deliver 0 = 1; deliver 1 = 0; deliver 2 = 0
            total 0 = 0; total 1 = -5; total 2 = 0; total 6 = -5; total 7 = -5
            total 8 = 0; total -1 = 0; total MIN = 0; total MAX = 0
            """);
        sentence("points: How many points are under way: none, and those of each sort", """
            graph input, sum 0, keep 0 | 0>1 1>2
            points = 1
            start = 0
            points = 1; put 0 1 = 0; points = 2
            deliver 0 = 0; points = 2; put 0 2 = 0; points = 3
            deliver 0 = 0; points = 2; close 0 = 0; points = 1
            fire 0 = 1; points = 1; deliver 1 = 0; points = 0
            """);
        sentence("times: How often something was done .. messages that were sent in all (from inputs, too)", """
            graph input, sum 0, pass 0, keep 0, keep 0 | 0>1 0>2 1>3 1>4 2>3
            start = 0
            times 0 = 0; times 1 = 0; times 2 = 0
            put 0 1 = 0; times 0 = 0; times 1 = 0; times 2 = 2
            deliver 1 = 1; times 0 = 1; times 1 = 0; times 2 = 3
            deliver 0 = 0; times 0 = 2; times 1 = 0; times 2 = 3
            close 0 = 0; fire 0 = 2; times 0 = 2; times 1 = 1; times 2 = 5
            deliver 0 = NONE; put 0 1 = NONE; fire 0 = BAD; times 0 = 2; times 1 = 1; times 2 = 5
            """);
        sentence("times: BAD when which is not 0 .. 2", """
            graph input
            times -1 = BAD; times 3 = BAD; times MIN = BAD; times MAX = BAD
            start = 0
            times -1 = BAD; times 3 = BAD; times 0 = 0; times 2 = 0
            """);
    }

    public static void main(String[] args) {
        calls();
        termsVertices();
        termsEdges();
        termsTimes();
        termsMessages();
        termsDelivering();
        termsPoints();
        building();
        inputs();
        delivering();
        requests();
        looks();
        System.out.println(tests + " sentences, " + (wrong == 0 ? "all answers are as due"
            : wrong + " answers are not as due"));
        if (wrong != 0) {
            System.exit(1);
        }
    }
}
