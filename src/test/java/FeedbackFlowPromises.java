// The promises one by one: ordinary inputs, the edges that the document names, and wrong inputs.
public final class FeedbackFlowPromises {
    private static final int BAD = -1;
    private static final int FULL = -2;
    private static final int NONE = -3;
    private static final int LATE = -4;
    private static final int ILL = -5;
    private static final int WAIT = -6;

    private static final int INPUT = 0;
    private static final int PLAIN = 1;
    private static final int ENTRY = 2;
    private static final int EXIT = 3;
    private static final int BACK = 4;

    private static final int PASS = 0;
    private static final int SUM = 1;
    private static final int STEP = 2;
    private static final int KEEP = 3;

    private static final int[] FAR = {Integer.MIN_VALUE, -2, -1, 100, Integer.MAX_VALUE};

    private static int wrong = 0;

    private static void due(String what, int got, int want) {
        if (got != want) {
            wrong++;
            System.out.println(what + " answered " + got + ", due is " + want);
        }
    }

    private static void dueMessage(String what, FeedbackFlow x, int edge, int k, int... want) {
        for (int i = 0; i < 4; i++) {
            due(what + ", message part " + i, x.message(edge, k, i), want[i]);
        }
    }

    private static void dueRequest(String what, FeedbackFlow x, int i, int... want) {
        for (int part = 0; part < 5; part++) {
            due(what + ", request part " + part, x.request(i, part), want[part]);
        }
    }

    /** Makes vertices from rows of kind, depth and work, then edges from rows of from and to. */
    private static FeedbackFlow building(int[][] vertices, int[][] edges) {
        FeedbackFlow x = new FeedbackFlow();
        for (int v = 0; v < vertices.length; v++) {
            due("building vertex " + v, x.vertex(vertices[v][0], vertices[v][1], vertices[v][2]), v);
        }
        for (int e = 0; e < edges.length; e++) {
            due("building edge " + e, x.edge(edges[e][0], edges[e][1]), e);
        }
        return x;
    }

    private static FeedbackFlow running(int[][] vertices, int[][] edges) {
        FeedbackFlow x = building(vertices, edges);
        due("starting", x.start(), 0);
        return x;
    }

    private static void putAll(FeedbackFlow x, int v, int... values) {
        for (int value : values) {
            due("put " + value, x.put(v, value), 0);
        }
    }

    private static void deliverAll(FeedbackFlow x, int... edges) {
        for (int e : edges) {
            int before = x.waiting(e);
            if (x.deliver(e) < 0 || before < 1) {
                due("deliver on edge " + e + " is refused", 1, 0);
            }
        }
    }

    private static void constants() {
        due("BAD", FeedbackFlow.BAD, BAD);
        due("FULL", FeedbackFlow.FULL, FULL);
        due("NONE", FeedbackFlow.NONE, NONE);
        due("LATE", FeedbackFlow.LATE, LATE);
        due("ILL", FeedbackFlow.ILL, ILL);
        due("WAIT", FeedbackFlow.WAIT, WAIT);
    }

    private static void promise1NewObject() {
        FeedbackFlow x = new FeedbackFlow();
        due("1: points", x.points(), 0);
        due("1: requests", x.requests(), 0);
        due("1: waiting", x.waiting(0), BAD);
        due("1: message", x.message(0, 0, 0), 0);
        due("1: total", x.total(0), 0);
        due("1: edge", x.edge(0, 0), BAD);
        due("1: put", x.put(0, 1), BAD);
        due("1: advance", x.advance(0), BAD);
        due("1: close", x.close(0), BAD);
        due("1: deliver", x.deliver(0), BAD);
        due("1: fire", x.fire(0), BAD);
        due("1: ahead", x.ahead(0), BAD);
        due("1: request", x.request(0, 0), BAD);
        for (int which = 0; which < 3; which++) {
            due("1: times " + which, x.times(which), 0);
        }
        due("1: the first vertex", x.vertex(INPUT, 0, 0), 0);
        due("1: another object's first vertex", new FeedbackFlow().vertex(PLAIN, 0, 0), 0);
        due("1: an object without vertices starts", new FeedbackFlow().start(), 0);
    }

    private static void promise2Vertex() {
        int[] least = {0, 0, 1, 1, 1};
        int[] most = {0, 2, 2, 2, 2};
        for (int kind = -1; kind <= 5; kind++) {
            for (int depth = -1; depth <= 3; depth++) {
                boolean fits = kind >= 0 && kind <= 4 && depth >= least[kind] && depth <= most[kind];
                for (int work = -1; work <= 4; work++) {
                    int want = fits && work >= 0 && work <= 3 ? 0 : BAD;
                    String what = "2: vertex " + kind + " " + depth + " " + work;
                    due(what, new FeedbackFlow().vertex(kind, depth, work), want);
                }
            }
        }
        FeedbackFlow x = new FeedbackFlow();
        for (int far : FAR) {
            due("2: kind " + far, x.vertex(far, 0, 0), BAD);
            due("2: depth " + far, x.vertex(PLAIN, far, 0), BAD);
            due("2: work " + far, x.vertex(PLAIN, 0, far), BAD);
        }
        for (int v = 0; v < 8; v++) {
            due("2: vertex number", x.vertex(PLAIN, 0, KEEP), v);
        }
        due("2: a ninth", x.vertex(PLAIN, 0, KEEP), FULL);
        due("2: a wrong ninth", x.vertex(PLAIN, 0, 4), BAD);
        due("2: start", x.start(), 0);
        due("2: not building", x.vertex(PLAIN, 0, KEEP), BAD);
        due("2: not building, with room", started().vertex(PLAIN, 0, KEEP), BAD);
    }

    private static FeedbackFlow started() {
        FeedbackFlow x = new FeedbackFlow();
        due("start", x.start(), 0);
        return x;
    }

    private static void promise2WorkCountsForPlainAlone() {
        for (int work = 0; work < 4; work++) {
            FeedbackFlow x = running(
                new int[][] {{INPUT, 0, work}, {ENTRY, 1, work}, {BACK, 1, work}, {EXIT, 1, work},
                    {PLAIN, 0, KEEP}, {PLAIN, 0, KEEP}},
                new int[][] {{0, 1}, {1, 2}, {2, 3}, {3, 4}, {3, 5}});
            putAll(x, 0, 5);
            due("2: entry with work " + work, x.deliver(0), 1);
            due("2: back with work " + work, x.deliver(1), 1);
            due("2: exit with work " + work, x.deliver(2), 2);
            due("2: no request", x.requests(), 0);
            due("2: value", x.message(3, 0, 0), 5);
            due("2: value", x.message(4, 0, 0), 5);
        }
    }

    private static void promise3Edge() {
        int[][] all = {{INPUT, 0, 0}, {PLAIN, 0, 0}, {PLAIN, 1, 0}, {PLAIN, 2, 0}, {ENTRY, 1, 0},
            {ENTRY, 2, 0}, {EXIT, 1, 0}, {EXIT, 2, 0}};
        checkPairs(all);
        checkPairs(new int[][] {{BACK, 1, 0}, {BACK, 2, 0}, {ENTRY, 1, 0}, {ENTRY, 2, 0},
            {EXIT, 1, 0}, {EXIT, 2, 0}, {PLAIN, 1, 0}, {INPUT, 0, 0}});

        FeedbackFlow x = building(new int[][] {{PLAIN, 0, 0}, {PLAIN, 0, 0}}, new int[][] {});
        for (int far : FAR) {
            due("3: from " + far, x.edge(far, 0), BAD);
            due("3: to " + far, x.edge(0, far), BAD);
        }
        due("3: from none", x.edge(2, 0), BAD);
        due("3: to none", x.edge(0, 2), BAD);
        due("3: edge", x.edge(0, 1), 0);
        due("3: the same", x.edge(0, 1), BAD);
        due("3: the other way", x.edge(1, 0), 1);
        due("3: to itself", x.edge(1, 1), 2);
        due("3: to itself again", x.edge(1, 1), BAD);

        FeedbackFlow y = started();
        due("3: not building", y.edge(0, 0), BAD);
        FeedbackFlow z = running(new int[][] {{PLAIN, 0, 0}, {PLAIN, 0, 0}}, new int[][] {});
        due("3: not building", z.edge(0, 1), BAD);
    }

    private static void checkPairs(int[][] kinds) {
        for (int from = 0; from < kinds.length; from++) {
            for (int to = 0; to < kinds.length; to++) {
                FeedbackFlow x = building(kinds, new int[][] {});
                int out = kinds[from][1] - (kinds[from][0] == EXIT ? 1 : 0);
                int in = kinds[to][1] - (kinds[to][0] == ENTRY ? 1 : 0);
                int want = out == in && kinds[to][0] != INPUT ? 0 : BAD;
                due("3: edge " + from + " " + to, x.edge(from, to), want);
            }
        }
    }

    private static void promise3TwelveEdges() {
        int[][] plain = new int[6][3];
        for (int v = 0; v < 6; v++) {
            plain[v] = new int[] {PLAIN, 0, PASS};
        }
        FeedbackFlow x = building(plain, new int[][] {{0, 1}, {0, 2}, {0, 3}, {0, 4}, {0, 5},
            {1, 2}, {1, 3}, {1, 4}, {1, 5}, {2, 3}, {2, 4}});
        due("3: waiting on none", x.waiting(11), BAD);
        due("3: the twelfth", x.edge(2, 5), 11);
        due("3: a thirteenth", x.edge(3, 4), FULL);
        due("3: the same as the twelfth", x.edge(2, 5), BAD);
        due("3: from none", x.edge(6, 0), BAD);
        due("3: waiting", x.waiting(11), 0);
        due("3: waiting on none", x.waiting(12), BAD);
    }

    private static void promise4Start() {
        due("4: twice", started().start(), BAD);
        FeedbackFlow own = building(new int[][] {{PLAIN, 1, PASS}}, new int[][] {{0, 0}});
        due("4: a ring of one", own.start(), ILL);
        due("4: goes on building", own.vertex(PLAIN, 1, PASS), 1);
        due("4: goes on building", own.edge(0, 1), 1);
        due("4: the run has not begun", own.deliver(0), BAD);
        due("4: still", own.start(), ILL);

        FeedbackFlow back = building(new int[][] {{BACK, 1, 0}}, new int[][] {{0, 0}});
        due("4: a ring of one back", back.start(), 0);

        FeedbackFlow loop = building(new int[][] {{ENTRY, 1, 0}, {PLAIN, 1, 0}, {EXIT, 1, 0}},
            new int[][] {{0, 1}, {1, 2}, {2, 0}});
        due("4: a ring by way of exit and entry", loop.start(), ILL);

        FeedbackFlow two = building(
            new int[][] {{BACK, 2, 0}, {PLAIN, 2, 0}, {PLAIN, 2, 0}, {PLAIN, 2, 0}},
            new int[][] {{0, 1}, {1, 2}, {2, 0}, {2, 3}, {3, 1}});
        due("4: one ring with a back, one without", two.start(), ILL);

        FeedbackFlow whole = building(
            new int[][] {{BACK, 2, 0}, {PLAIN, 2, 0}, {PLAIN, 2, 0}, {BACK, 2, 0}},
            new int[][] {{0, 1}, {1, 2}, {2, 0}, {2, 3}, {3, 1}});
        due("4: two rings with backs", whole.start(), 0);

        FeedbackFlow diamond = building(
            new int[][] {{PLAIN, 0, 0}, {PLAIN, 0, 0}, {PLAIN, 0, 0}, {PLAIN, 0, 0}},
            new int[][] {{3, 2}, {3, 1}, {2, 0}, {1, 0}, {2, 1}});
        due("4: no ring", diamond.start(), 0);
        promise4LongRings();
    }

    private static void promise4LongRings() {
        int[][] chain = new int[8][3];
        int[][] down = new int[8][2];
        for (int v = 0; v < 8; v++) {
            chain[v] = new int[] {PLAIN, 1, PASS};
            down[v] = new int[] {v, (v + 7) % 8};
        }
        due("4: a ring of eight", building(chain, down).start(), ILL);
        int[][] line = java.util.Arrays.copyOfRange(down, 1, 8);
        due("4: a line of eight", building(chain, line).start(), 0);
        chain[5] = new int[] {BACK, 1, PASS};
        due("4: a ring of eight with a back", building(chain, down).start(), 0);
    }

    private static void promise5Put() {
        FeedbackFlow x = building(
            new int[][] {{INPUT, 0, 0}, {PLAIN, 0, KEEP}, {PLAIN, 0, KEEP}, {INPUT, 0, 0}},
            new int[][] {{0, 1}, {0, 2}});
        due("5: not begun", x.put(0, 1), BAD);
        due("5: start", x.start(), 0);
        due("5: no input", x.put(1, 1), BAD);
        due("5: no vertex", x.put(4, 1), BAD);
        for (int far : FAR) {
            due("5: no vertex " + far, x.put(far, 1), BAD);
        }
        putAll(x, 0, 7, Integer.MIN_VALUE);
        dueMessage("5: first", x, 0, 0, 7, 0, 0, 0);
        dueMessage("5: second", x, 1, 1, Integer.MIN_VALUE, 0, 0, 0);
        due("5: sent", x.times(2), 4);
        due("5: without edges", x.put(3, 9), 0);
        due("5: sent", x.times(2), 4);
        due("5: advance", x.advance(0), 1);
        putAll(x, 0, 1, 2, 3, 4);
        dueMessage("5: epoch", x, 1, 2, 1, 1, 0, 0);
        due("5: both full", x.put(0, 5), FULL);
        deliverAll(x, 0);
        due("5: one full", x.put(0, 5), FULL);
        due("5: nothing changed", x.waiting(0), 5);
        deliverAll(x, 1);
        due("5: room", x.put(0, 5), 0);
        due("5: sent", x.times(2), 14);
        due("5: close", x.close(0), 0);
        due("5: closed before full", x.put(0, 5), NONE);
        due("5: the other one is open", x.put(3, 5), 0);
    }

    private static void promise6Advance() {
        FeedbackFlow x = building(new int[][] {{INPUT, 0, 0}, {PLAIN, 0, 0}, {INPUT, 0, 0}},
            new int[][] {{0, 1}});
        due("6: not begun", x.advance(0), BAD);
        due("6: start", x.start(), 0);
        due("6: no input", x.advance(1), BAD);
        for (int far : FAR) {
            due("6: no vertex " + far, x.advance(far), BAD);
        }
        due("6: no vertex", x.advance(3), BAD);
        putAll(x, 0, 5);
        for (int epoch = 1; epoch <= 15; epoch++) {
            due("6: advance", x.advance(0), epoch);
        }
        due("6: beyond 15", x.advance(0), LATE);
        due("6: beyond 15", x.advance(0), LATE);
        putAll(x, 0, 5);
        due("6: what was put stays", x.message(0, 0, 1), 0);
        due("6: epoch", x.message(0, 1, 1), 15);
        due("6: the other one", x.advance(2), 1);
        due("6: close", x.close(0), 0);
        due("6: closed before late", x.advance(0), NONE);
    }

    private static void promise7Close() {
        FeedbackFlow x = building(new int[][] {{INPUT, 0, 0}, {PLAIN, 0, 0}, {INPUT, 0, 0}},
            new int[][] {{0, 1}});
        due("7: not begun", x.close(0), BAD);
        due("7: start", x.start(), 0);
        due("7: no input", x.close(1), BAD);
        for (int far : FAR) {
            due("7: no vertex " + far, x.close(far), BAD);
        }
        due("7: no vertex", x.close(3), BAD);
        putAll(x, 0, 5);
        due("7: points", x.points(), 3);
        due("7: close", x.close(0), 0);
        due("7: points", x.points(), 2);
        due("7: again", x.close(0), NONE);
        due("7: its message stays", x.deliver(0), 0);
        due("7: the other one", x.close(2), 0);
        due("7: points", x.points(), 0);
    }

    private static void promise8Refusals() {
        FeedbackFlow x = building(new int[][] {{INPUT, 0, 0}, {PLAIN, 0, KEEP}},
            new int[][] {{0, 1}});
        due("8: not begun", x.deliver(0), BAD);
        due("8: start", x.start(), 0);
        for (int far : FAR) {
            due("8: no edge " + far, x.deliver(far), BAD);
        }
        due("8: no edge", x.deliver(1), BAD);
        due("8: no message", x.deliver(0), NONE);
        putAll(x, 0, 3);
        due("8: keep", x.deliver(0), 0);
        due("8: no message", x.deliver(0), NONE);
        due("8: delivered", x.times(0), 1);
    }

    private static void promise8Pass() {
        FeedbackFlow x = running(
            new int[][] {{INPUT, 0, 0}, {PLAIN, 0, PASS}, {PLAIN, 0, KEEP}, {PLAIN, 0, KEEP}},
            new int[][] {{0, 1}, {1, 2}, {1, 3}});
        due("8: advance", x.advance(0), 1);
        putAll(x, 0, -4, 9);
        due("8: pass", x.deliver(0), 2);
        dueMessage("8: pass", x, 1, 0, -4, 1, 0, 0);
        dueMessage("8: pass", x, 2, 0, -4, 1, 0, 0);
        dueMessage("8: the next is first then", x, 0, 0, 9, 1, 0, 0);
        deliverAll(x, 0);
        putAll(x, 0, 1, 2, 3, 4, 5);
        deliverAll(x, 0, 0, 0, 0);
        deliverAll(x, 1);
        due("8: one of two is full", x.deliver(0), FULL);
        due("8: nothing is taken", x.waiting(0), 1);
        due("8: nothing is put", x.waiting(1), 5);
        due("8: no total", x.total(1), 15);
        due("8: not delivered", x.times(0), 7);
        due("8: not sent", x.times(2), 19);
        deliverAll(x, 2);
        due("8: room", x.deliver(0), 2);
        due("8: keep with edges to none", x.deliver(1), 0);
    }

    private static void promise8EntryExitBack() {
        FeedbackFlow x = running(
            new int[][] {{INPUT, 0, 0}, {ENTRY, 1, 0}, {BACK, 1, 0}, {ENTRY, 2, 0}, {BACK, 2, 0},
                {EXIT, 2, 0}, {EXIT, 1, 0}, {PLAIN, 0, KEEP}},
            new int[][] {{0, 1}, {1, 2}, {2, 3}, {3, 4}, {4, 5}, {5, 6}, {6, 7}, {2, 2}});
        due("8: advance", x.advance(0), 1);
        due("8: advance", x.advance(0), 2);
        putAll(x, 0, 8);
        due("8: entry 1", x.deliver(0), 1);
        dueMessage("8: entry 1", x, 1, 0, 8, 2, 0, 0);
        due("8: back 1", x.deliver(1), 2);
        dueMessage("8: back 1", x, 2, 0, 8, 2, 1, 0);
        due("8: back 1 again", x.deliver(7), 2);
        dueMessage("8: back 1 again", x, 2, 1, 8, 2, 2, 0);
        deliverAll(x, 2);
        due("8: entry 2", x.deliver(2), 1);
        dueMessage("8: entry 2", x, 3, 1, 8, 2, 2, 0);
        due("8: back 2", x.deliver(3), 1);
        due("8: back 2", x.deliver(3), 1);
        dueMessage("8: back 2", x, 4, 0, 8, 2, 1, 1);
        dueMessage("8: back 2", x, 4, 1, 8, 2, 2, 1);
        deliverAll(x, 4);
        due("8: exit 2", x.deliver(4), 1);
        dueMessage("8: exit 2", x, 5, 1, 8, 2, 2, 0);
        deliverAll(x, 5);
        due("8: exit 1", x.deliver(5), 1);
        dueMessage("8: exit 1", x, 6, 1, 8, 2, 0, 0);
        due("8: total", x.total(2), 16);
    }

    /** Depths 1 and 2, a back with edges and one without. */
    private static void promise8Late() {
        FeedbackFlow x = running(
            new int[][] {{INPUT, 0, 0}, {ENTRY, 1, 0}, {BACK, 1, 0}, {BACK, 1, 0}},
            new int[][] {{0, 1}, {1, 2}, {2, 2}, {2, 3}});
        putAll(x, 0, 1);
        deliverAll(x, 0, 1);
        for (int count = 1; count < 15; count++) {
            due("8: back without edges", x.deliver(3), 0);
            due("8: back", x.deliver(2), 2);
        }
        due("8: counter", x.message(2, 0, 2), 15);
        due("8: late", x.deliver(2), LATE);
        due("8: late without edges", x.deliver(3), LATE);
        due("8: nothing is taken", x.waiting(2) + x.waiting(3), 2);
        due("8: total", x.total(3), 14);

        FeedbackFlow y = running(
            new int[][] {{INPUT, 0, 0}, {ENTRY, 1, 0}, {ENTRY, 2, 0}, {BACK, 2, 0}, {EXIT, 2, 0}},
            new int[][] {{0, 1}, {1, 2}, {2, 3}, {3, 3}, {3, 4}});
        putAll(y, 0, 1);
        deliverAll(y, 0, 1, 2);
        for (int count = 1; count < 15; count++) {
            deliverAll(y, 4);
            due("8: back 2", y.deliver(3), 2);
        }
        dueMessage("8: back 2", y, 3, 0, 1, 0, 0, 15);
        due("8: late at depth 2", y.deliver(3), LATE);
        due("8: an exit is never late", y.deliver(4), 0);
    }

    private static void promise8LateBeforeFull() {
        FeedbackFlow x = running(
            new int[][] {{INPUT, 0, 0}, {ENTRY, 1, 0}, {BACK, 1, 0}, {PLAIN, 1, KEEP}},
            new int[][] {{0, 1}, {1, 2}, {2, 2}, {2, 3}});
        putAll(x, 0, 1);
        deliverAll(x, 0, 1);
        for (int count = 1; count < 15; count++) {
            deliverAll(x, 3, 2);
        }
        putAll(x, 0, 2, 3, 4, 5, 6);
        deliverAll(x, 0, 0, 0, 0, 0, 1, 1, 1, 1, 1);
        due("8: full", x.waiting(3), 6);
        due("8: late before full", x.deliver(2), LATE);
    }

    private static void promise8TakenIsGoneBefore() {
        FeedbackFlow x = running(
            new int[][] {{INPUT, 0, 0}, {ENTRY, 1, 0}, {BACK, 1, 0}},
            new int[][] {{0, 1}, {1, 2}, {2, 2}});
        putAll(x, 0, 1, 2, 3, 4, 5, 6);
        deliverAll(x, 0, 0, 0, 0, 0, 0, 1, 1, 1, 1, 1, 1);
        putAll(x, 0, 7);
        deliverAll(x, 0);
        due("8: six on the edge", x.waiting(2), 6);
        due("8: from another edge it is full", x.deliver(1), FULL);
        due("8: onto its own edge there is room", x.deliver(2), 1);
        due("8: six on the edge", x.waiting(2), 6);
        dueMessage("8: first", x, 2, 0, 2, 0, 1, 0);
        dueMessage("8: last", x, 2, 5, 1, 0, 2, 0);
    }

    private static void promise8Step() {
        int[][] vertices = {{INPUT, 0, 0}, {PLAIN, 0, STEP}, {PLAIN, 0, KEEP}, {PLAIN, 0, KEEP},
            {PLAIN, 0, KEEP}};
        FeedbackFlow x = running(vertices, new int[][] {{1, 4}, {0, 1}, {1, 2}, {1, 3}});
        putAll(x, 0, 1, 0, -5, Integer.MAX_VALUE, Integer.MIN_VALUE, 2);
        for (int i = 0; i < 6; i++) {
            due("8: step", x.deliver(1), 1);
        }
        due("8: first edge", x.waiting(0), 3);
        due("8: second edge", x.waiting(2), 3);
        due("8: third edge", x.waiting(3), 0);
        due("8: x - 1", x.message(0, 0, 0), 0);
        due("8: x - 1", x.message(0, 1, 0), Integer.MAX_VALUE - 1);
        due("8: x - 1", x.message(0, 2, 0), 1);
        due("8: x", x.message(2, 0, 0), 0);
        due("8: x", x.message(2, 1, 0), -5);
        due("8: x", x.message(2, 2, 0), Integer.MIN_VALUE);
        putAll(x, 0, 1, 1, 1, 1, 0);
        deliverAll(x, 1, 1, 1);
        due("8: first edge is full", x.deliver(1), FULL);
        deliverAll(x, 0);
        deliverAll(x, 1);
        due("8: the second edge counts alone", x.deliver(1), 1);

        FeedbackFlow one = running(vertices, new int[][] {{0, 1}, {1, 2}});
        putAll(one, 0, 0, 1);
        due("8: no second edge", one.deliver(0), 0);
        due("8: a first edge", one.deliver(0), 1);
        due("8: total", one.total(1), 1);
        FeedbackFlow none = running(vertices, new int[][] {{0, 1}});
        putAll(none, 0, 0, 1);
        due("8: no edge", none.deliver(0), 0);
        due("8: no edge", none.deliver(0), 0);
        due("8: delivered", none.times(0), 2);
        due("8: sent", none.times(2), 2);
    }

    private static void promise8StepWithoutSecondIsNeverFull() {
        FeedbackFlow x = running(
            new int[][] {{INPUT, 0, 0}, {PLAIN, 0, STEP}, {PLAIN, 0, KEEP}},
            new int[][] {{0, 1}, {1, 2}});
        for (int i = 0; i < 6; i++) {
            putAll(x, 0, 3);
            deliverAll(x, 0);
        }
        putAll(x, 0, 0, 4);
        due("8: nothing is to be put", x.deliver(0), 0);
        due("8: full", x.deliver(0), FULL);
    }

    private static void promise8KeepWithEdges() {
        FeedbackFlow x = running(
            new int[][] {{INPUT, 0, 0}, {PLAIN, 0, KEEP}, {PLAIN, 0, KEEP}},
            new int[][] {{0, 1}, {1, 2}});
        putAll(x, 0, 6);
        due("8: keep", x.deliver(0), 0);
        due("8: keep sends nothing", x.waiting(1), 0);
        due("8: keep", x.total(1), 6);
        due("8: keep makes no request", x.requests(), 0);
    }

    private static void promise8Sum() {
        FeedbackFlow x = running(
            new int[][] {{INPUT, 0, 0}, {PLAIN, 0, SUM}, {PLAIN, 0, KEEP}},
            new int[][] {{0, 1}, {1, 2}});
        for (int epoch = 0; epoch < 4; epoch++) {
            putAll(x, 0, Integer.MAX_VALUE);
            due("8: sum", x.deliver(0), 0);
            due("8: advance", x.advance(0), epoch + 1);
        }
        due("8: sum sends nothing", x.waiting(1), 0);
        putAll(x, 0, 5);
        due("8: a fifth request", x.deliver(0), FULL);
        due("8: nothing is taken", x.waiting(0), 1);
        due("8: no total", x.total(1), 4 * Integer.MAX_VALUE);
        due("8: requests", x.requests(), 4);
        due("8: fire", x.fire(2), WAIT);
        due("8: fire", x.fire(0), 1);
        due("8: room", x.deliver(0), 0);
        putAll(x, 0, 7);
        due("8: there is a request for it", x.deliver(0), 0);
        dueRequest("8: gathered", x, 3, 1, 4, 0, 0, 12);
    }

    private static void promise9and10Requests() {
        FeedbackFlow x = running(
            new int[][] {{PLAIN, 0, SUM}, {INPUT, 0, 0}, {ENTRY, 1, 0}, {ENTRY, 2, 0}, {BACK, 1, 0},
                {BACK, 2, 0}, {PLAIN, 2, SUM}, {INPUT, 0, 0}},
            new int[][] {{1, 2}, {2, 4}, {2, 3}, {4, 3}, {3, 6}, {3, 5}, {5, 6}, {7, 0}});
        due("9: none", x.requests(), 0);
        due("10: none", x.request(0, 0), BAD);
        due("9: advance", x.advance(1), 1);
        putAll(x, 1, 10);
        deliverAll(x, 0, 1);
        deliverAll(x, 3, 2);
        deliverAll(x, 5, 6);
        dueRequest("10: one", x, 0, 6, 1, 1, 1, 10);
        deliverAll(x, 5, 6);
        dueRequest("10: less first counter", x, 0, 6, 1, 0, 1, 10);
        dueRequest("10: greater first counter", x, 1, 6, 1, 1, 1, 10);
        deliverAll(x, 4);
        dueRequest("10: less second counter", x, 1, 6, 1, 1, 0, 10);
        deliverAll(x, 4);
        dueRequest("10: least", x, 0, 6, 1, 0, 0, 10);
        dueRequest("10: greatest", x, 3, 6, 1, 1, 1, 10);
        due("9: four", x.requests(), 4);
        due("9: advance", x.advance(7), 1);
        due("9: advance", x.advance(7), 2);
        putAll(x, 7, -3);
        deliverAll(x, 7);
        dueRequest("10: less vertex, greater epoch", x, 0, 0, 2, 0, 0, -3);
        dueRequest("10: then the others", x, 1, 6, 1, 0, 0, 10);
        due("9: five", x.requests(), 5);
        due("10: no part", x.request(0, -1), BAD);
        due("10: no part", x.request(0, 5), BAD);
        due("10: no request", x.request(5, 0), BAD);
        for (int far : FAR) {
            due("10: no part " + far, x.request(0, far), BAD);
            due("10: no request " + far, x.request(far, 0), BAD);
        }
    }

    /** Two inputs, so that a less epoch can come after a greater one. */
    private static void promise9EpochsBeforeCounters() {
        FeedbackFlow x = running(
            new int[][] {{INPUT, 0, 0}, {ENTRY, 1, 0}, {BACK, 1, 0}, {PLAIN, 1, SUM}, {INPUT, 0, 0}},
            new int[][] {{0, 1}, {1, 2}, {1, 3}, {2, 3}, {4, 1}});
        due("9: advance", x.advance(0), 1);
        putAll(x, 0, 1);
        deliverAll(x, 0, 2);
        putAll(x, 4, 2);
        deliverAll(x, 1, 4, 1, 3, 3);
        dueRequest("9: epoch 0", x, 0, 3, 0, 1, 0, 2);
        dueRequest("9: epoch 1", x, 1, 3, 1, 0, 0, 1);
        dueRequest("9: epoch 1", x, 2, 3, 1, 1, 0, 1);
    }

    private static void promise10GatheredWraps() {
        FeedbackFlow x = running(new int[][] {{INPUT, 0, 0}, {PLAIN, 0, SUM}}, new int[][] {{0, 1}});
        putAll(x, 0, Integer.MAX_VALUE, 1, 0, -1);
        deliverAll(x, 0, 0);
        due("10: wraps", x.request(0, 4), Integer.MIN_VALUE);
        deliverAll(x, 0, 0);
        due("10: wraps", x.request(0, 4), Integer.MAX_VALUE);
        due("15: wraps", x.total(1), Integer.MAX_VALUE);
    }

    private static void promise11Ahead() {
        FeedbackFlow x = running(
            new int[][] {{INPUT, 0, 0}, {PLAIN, 0, SUM}, {PLAIN, 0, SUM}, {INPUT, 0, 0}},
            new int[][] {{0, 1}, {1, 2}, {3, 2}});
        putAll(x, 0, 1, 2, 3);
        deliverAll(x, 0);
        due("11: two messages are one point, and the input", x.ahead(0), 2);
        putAll(x, 3, 4);
        deliverAll(x, 2);
        due("11: what is behind it is not ahead", x.ahead(0), 2);
        due("11: message, request and both inputs", x.ahead(1), 4);
        due("11: advance", x.advance(0), 1);
        due("11: the input is later", x.ahead(0), 1);
        due("11: the input is later", x.ahead(1), 3);
        putAll(x, 0, 5);
        due("11: a later message", x.ahead(0), 1);
        deliverAll(x, 0, 0, 0);
        due("11: a request of a later epoch", x.ahead(0), 0);
        due("11: a request of an earlier epoch, and the input", x.ahead(1), 2);
        due("11: no request", x.ahead(3), BAD);
        for (int far : FAR) {
            due("11: no request " + far, x.ahead(far), BAD);
        }
        due("11: advance", x.advance(3), 1);
        due("11: the other vertex, one request is later", x.ahead(2), 1);
        due("11: close", x.close(3), 0);
        due("11: close", x.close(0), 0);
        due("11: closed", x.ahead(1), 1);
    }

    /** Time (1; 0) against (0; 1): neither is not later than the other. */
    private static void promise11NeitherNotLater() {
        FeedbackFlow x = running(
            new int[][] {{INPUT, 0, 0}, {ENTRY, 1, 0}, {BACK, 1, 0}, {PLAIN, 1, SUM}},
            new int[][] {{0, 1}, {1, 2}, {1, 3}, {2, 3}});
        putAll(x, 0, 1);
        deliverAll(x, 0);
        due("11: advance", x.advance(0), 1);
        putAll(x, 0, 2);
        deliverAll(x, 0, 1, 3, 2, 2);
        due("11: close", x.close(0), 0);
        due("11: requests", x.requests(), 3);
        dueRequest("11: first", x, 0, 3, 0, 0, 0, 1);
        dueRequest("11: second", x, 1, 3, 0, 1, 0, 1);
        dueRequest("11: third", x, 2, 3, 1, 0, 0, 2);
        due("11: first", x.ahead(0), 0);
        due("11: second", x.ahead(1), 1);
        due("11: third, not for the second or its message", x.ahead(2), 1);
        due("12: fire", x.fire(0), 0);
        due("11: second", x.ahead(0), 0);
        due("11: third", x.ahead(1), 0);
        due("12: the third before the second", x.fire(1), 0);
    }

    /** What a KEEP never sends and a STEP sends elsewhere can still come, as edges alone count. */
    private static void promise11EdgesAloneCount() {
        FeedbackFlow x = running(
            new int[][] {{INPUT, 0, 0}, {PLAIN, 0, KEEP}, {PLAIN, 0, SUM}, {INPUT, 0, 0}},
            new int[][] {{0, 1}, {1, 2}, {3, 2}});
        putAll(x, 3, 1);
        deliverAll(x, 2);
        due("11: close", x.close(3), 0);
        due("11: by way of a keep", x.ahead(0), 1);
        due("12: by way of a keep", x.fire(0), WAIT);
        due("11: close", x.close(0), 0);
        due("11: nothing", x.ahead(0), 0);
    }

    /**
     * A point of a loop with (0, 5) comes out of the inner loop and in again with (0, 0) by a ring
     * that it must go round to be early; a point of the outer loop takes the second counter along.
     */
    private static void promise11RingThatMakesEarlier() {
        FeedbackFlow x = running(
            new int[][] {{INPUT, 0, 0}, {ENTRY, 1, 0}, {ENTRY, 2, 0}, {PLAIN, 2, PASS}, {BACK, 2, 0},
                {EXIT, 2, 0}, {PLAIN, 2, SUM}},
            new int[][] {{0, 1}, {1, 2}, {2, 3}, {3, 4}, {4, 3}, {3, 6}, {4, 5}, {5, 2}});
        putAll(x, 0, 1);
        due("11: close", x.close(0), 0);
        deliverAll(x, 0, 1, 2, 5);
        dueRequest("11: at the start", x, 0, 6, 0, 0, 0, 1);
        due("11: back at (0, 0) comes out and in with (0, 0)", x.ahead(0), 1);
        deliverAll(x, 3);
        due("11: two messages at (0, 1)", x.ahead(0), 2);
        deliverAll(x, 4, 5, 3, 4, 3, 4);
        due("11: one on edge 3, three on edge 6, but none on edge 5", x.ahead(0), 4);
        due("12: so it waits", x.fire(0), WAIT);
    }

    /** A counter beyond 15 is no end of the way where it is left behind by an exit. */
    private static void promise11BeyondFifteen() {
        FeedbackFlow x = running(
            new int[][] {{INPUT, 0, 0}, {ENTRY, 1, 0}, {BACK, 1, 0}, {EXIT, 1, 0}, {PLAIN, 0, SUM}},
            new int[][] {{0, 1}, {1, 2}, {2, 2}, {2, 3}, {3, 4}});
        putAll(x, 0, 1);
        due("11: close", x.close(0), 0);
        deliverAll(x, 0, 1);
        deliverAll(x, 3, 4);
        for (int count = 1; count < 15; count++) {
            deliverAll(x, 2, 3, 4);
        }
        due("11: late", x.deliver(2), LATE);
        due("11: comes by 16 to the request", x.ahead(0), 1);
        due("12: waits", x.fire(0), WAIT);
        due("10: gathered", x.request(0, 4), 15);
    }

    private static void promise11FirstCounterCountsFirst() {
        FeedbackFlow x = running(
            new int[][] {{INPUT, 0, 0}, {ENTRY, 1, 0}, {BACK, 1, 0}, {ENTRY, 2, 0}, {BACK, 2, 0},
                {PLAIN, 2, SUM}},
            new int[][] {{0, 1}, {1, 2}, {2, 2}, {1, 3}, {2, 3}, {3, 4}, {4, 4}, {4, 5}, {3, 5}});
        putAll(x, 0, 1);
        due("11: close", x.close(0), 0);
        deliverAll(x, 0);
        deliverAll(x, 1, 4, 8, 5, 7);
        dueRequest("11: (1, 0)", x, 0, 5, 0, 1, 0, 1);
        dueRequest("11: (1, 1)", x, 1, 5, 0, 1, 1, 1);
        due("11: the message on 3 alone", x.ahead(0), 1);
        due("11: the message on 3 and (1, 0)", x.ahead(1), 2);
        deliverAll(x, 3, 5);
        due("11: one message at (0, 0), two at (0, 1)", x.ahead(0), 3);
        deliverAll(x, 8, 7);
        dueRequest("11: (0, 0)", x, 0, 5, 0, 0, 0, 1);
        dueRequest("11: (0, 1)", x, 1, 5, 0, 0, 1, 1);
        due("11: (0, 0)", x.ahead(0), 0);
        due("11: (0, 1), the message that comes with (0, 2) is later", x.ahead(1), 1);
        due("11: (1, 0), the message that comes with (0, 2) is not", x.ahead(2), 3);
        due("11: (1, 1)", x.ahead(3), 4);
    }

    private static void promise12Fire() {
        FeedbackFlow x = running(
            new int[][] {{INPUT, 0, 0}, {PLAIN, 0, SUM}, {PLAIN, 0, KEEP}, {PLAIN, 0, KEEP}},
            new int[][] {{0, 1}, {1, 2}, {1, 3}});
        due("12: none", x.fire(0), BAD);
        putAll(x, 0, 4, 5);
        deliverAll(x, 0, 0);
        for (int far : FAR) {
            due("12: none " + far, x.fire(far), BAD);
        }
        due("12: none", x.fire(1), BAD);
        due("12: the input could", x.fire(0), WAIT);
        due("12: nothing changed", x.requests(), 1);
        due("12: advance", x.advance(0), 1);
        due("12: fire", x.fire(0), 2);
        dueMessage("12: sent", x, 1, 0, 9, 0, 0, 0);
        dueMessage("12: sent", x, 2, 0, 9, 0, 0, 0);
        due("12: gone", x.requests(), 0);
        due("12: gone", x.fire(0), BAD);
        due("12: fired", x.times(1), 1);
        due("12: total is not changed by it", x.total(1), 9);
        for (int epoch = 1; epoch < 6; epoch++) {
            putAll(x, 0, epoch);
            deliverAll(x, 0);
            due("12: advance", x.advance(0), epoch + 1);
            due("12: fire", x.fire(0), 2);
        }
        dueMessage("12: last", x, 2, 5, 5, 5, 0, 0);
        putAll(x, 0, 70);
        deliverAll(x, 0);
        due("12: waits before full", x.fire(0), WAIT);
        due("12: close", x.close(0), 0);
        due("12: full", x.fire(0), FULL);
        deliverAll(x, 1);
        due("12: one is full", x.fire(0), FULL);
        due("12: nothing changed", x.waiting(1) * 100 + x.waiting(2), 506);
        due("12: nothing changed", x.request(0, 4), 70);
        due("12: nothing changed", x.times(1), 6);
        deliverAll(x, 2);
        due("12: room", x.fire(0), 2);
        due("12: sent", x.times(2), 7 + 1 + 14);
    }

    /** In a loop a request may be made again for a time that comes back after it fired. */
    private static void promise12GathersAnew() {
        FeedbackFlow x = running(
            new int[][] {{INPUT, 0, 0}, {ENTRY, 1, 0}, {PLAIN, 1, SUM}, {EXIT, 1, 0}, {PLAIN, 1, KEEP},
                {BACK, 1, 0}},
            new int[][] {{0, 1}, {1, 2}, {2, 5}, {5, 2}, {2, 4}});
        putAll(x, 0, 3, 4);
        due("12: close", x.close(0), 0);
        deliverAll(x, 0, 0, 1, 1);
        due("12: fire", x.fire(0), 2);
        dueMessage("12: to the back", x, 2, 0, 7, 0, 0, 0);
        deliverAll(x, 2, 3);
        dueRequest("12: the next time round", x, 0, 2, 0, 1, 0, 7);
        due("11: its own point is not ahead", x.ahead(0), 0);
        due("12: fire", x.fire(0), 2);
        dueMessage("12: with its counter", x, 4, 1, 7, 0, 1, 0);

        FeedbackFlow y = running(
            new int[][] {{INPUT, 0, 0}, {PLAIN, 0, SUM}, {INPUT, 0, 0}, {PLAIN, 0, SUM}},
            new int[][] {{0, 1}, {2, 3}, {1, 3}});
        putAll(y, 0, 3);
        putAll(y, 2, 4);
        due("12: close", y.close(0), 0);
        due("12: close", y.close(2), 0);
        deliverAll(y, 1, 0);
        due("12: the first is before the second", y.fire(1), WAIT);
        due("12: fire", y.fire(0), 1);
        due("12: its message is before the second", y.fire(0), WAIT);
        deliverAll(y, 2);
        dueRequest("12: gathered", y, 0, 3, 0, 0, 0, 7);
        due("12: without edges", y.fire(0), 0);
        due("12: fired", y.times(1), 2);
    }

    private static void promise12MiddleRequestGoes() {
        FeedbackFlow x = running(
            new int[][] {{INPUT, 0, 0}, {ENTRY, 1, 0}, {BACK, 1, 0}, {PLAIN, 1, SUM}},
            new int[][] {{0, 1}, {1, 2}, {1, 3}, {2, 3}});
        putAll(x, 0, 1);
        deliverAll(x, 0, 2, 1, 3);
        due("12: advance", x.advance(0), 1);
        due("12: fire", x.fire(0), 0);
        putAll(x, 0, 2);
        deliverAll(x, 0, 2, 1, 3);
        due("12: close", x.close(0), 0);
        dueRequest("12: (0; 1)", x, 0, 3, 0, 1, 0, 1);
        dueRequest("12: (1; 0)", x, 1, 3, 1, 0, 0, 2);
        dueRequest("12: (1; 1)", x, 2, 3, 1, 1, 0, 2);
        due("12: (1; 1) waits", x.fire(2), WAIT);
        due("12: (1; 0)", x.fire(1), 0);
        dueRequest("12: (0; 1) stays", x, 0, 3, 0, 1, 0, 1);
        dueRequest("12: (1; 1) moves up", x, 1, 3, 1, 1, 0, 2);
    }

    private static void promise13and14Messages() {
        FeedbackFlow x = building(
            new int[][] {{INPUT, 0, 0}, {PLAIN, 0, KEEP}, {PLAIN, 0, KEEP}}, new int[][] {{0, 1}});
        due("13: while building", x.waiting(0), 0);
        due("14: while building", x.message(0, 0, 0), 0);
        due("13: start", x.start(), 0);
        for (int far : FAR) {
            due("13: no edge " + far, x.waiting(far), BAD);
            due("14: no edge " + far, x.message(far, 0, 0), 0);
        }
        due("13: no edge", x.waiting(1), BAD);
        for (int k = 0; k < 6; k++) {
            due("13: waiting", x.waiting(0), k);
            putAll(x, 0, 100 + k);
            due("13: advance", x.advance(0), k + 1);
        }
        due("13: waiting", x.waiting(0), 6);
        for (int k = 0; k < 6; k++) {
            dueMessage("14: in a line", x, 0, k, 100 + k, k, 0, 0);
        }
        due("14: no message", x.message(0, 6, 0), 0);
        for (int far : FAR) {
            due("14: no message " + far, x.message(0, far, 0), 0);
            due("14: no part " + far, x.message(0, 5, far), 0);
        }
        due("14: no part", x.message(0, 5, 4), 0);
        due("14: no part", x.message(0, 5, -1), 0);
        deliverAll(x, 0);
        for (int k = 0; k < 5; k++) {
            dueMessage("14: moved up", x, 0, k, 101 + k, k + 1, 0, 0);
        }
        dueMessage("14: gone", x, 0, 5, 0, 0, 0, 0);
    }

    private static void promise15Total() {
        FeedbackFlow x = building(
            new int[][] {{INPUT, 0, 0}, {PLAIN, 0, PASS}, {PLAIN, 0, KEEP}},
            new int[][] {{0, 1}, {1, 2}});
        due("15: while building", x.total(1), 0);
        due("15: start", x.start(), 0);
        putAll(x, 0, Integer.MIN_VALUE, -1, 5);
        due("15: an input has none", x.total(0), 0);
        deliverAll(x, 0);
        due("15: total", x.total(1), Integer.MIN_VALUE);
        deliverAll(x, 0);
        due("15: wraps", x.total(1), Integer.MAX_VALUE);
        deliverAll(x, 0, 1);
        due("15: wraps", x.total(1), Integer.MIN_VALUE + 4);
        due("15: another", x.total(2), Integer.MIN_VALUE);
        due("15: no vertex", x.total(3), 0);
        for (int far : FAR) {
            due("15: no vertex " + far, x.total(far), 0);
        }
    }

    private static void promise16Points() {
        FeedbackFlow x = building(
            new int[][] {{INPUT, 0, 0}, {INPUT, 0, 0}, {PLAIN, 0, SUM}, {PLAIN, 0, SUM}},
            new int[][] {{0, 2}, {1, 2}, {0, 3}});
        due("16: open inputs while building", x.points(), 2);
        due("16: start", x.start(), 0);
        due("16: open inputs", x.points(), 2);
        putAll(x, 0, 1, 2);
        due("16: the same time on two edges", x.points(), 4);
        due("16: advance", x.advance(0), 1);
        putAll(x, 0, 3);
        due("16: two times on two edges", x.points(), 6);
        putAll(x, 1, 3);
        due("16: a third edge", x.points(), 7);
        deliverAll(x, 0);
        due("16: a request and the other message", x.points(), 8);
        deliverAll(x, 0);
        due("16: the same request", x.points(), 7);
        deliverAll(x, 0, 2, 2, 2);
        due("16: two requests at each vertex", x.points(), 2 + 4 + 1);
        due("16: close", x.close(0), 0);
        due("16: one open", x.points(), 6);
    }

    /** The same time before and after another one on one edge is one point with it. */
    private static void promise16SamePointsApart() {
        FeedbackFlow x = running(
            new int[][] {{INPUT, 0, 0}, {INPUT, 0, 0}, {PLAIN, 0, PASS}, {PLAIN, 0, SUM}},
            new int[][] {{0, 2}, {1, 2}, {2, 3}});
        due("16: advance", x.advance(1), 1);
        putAll(x, 0, 1, 2);
        putAll(x, 1, 3, 4);
        deliverAll(x, 0, 1, 0, 1);
        due("16: two times on the edge", x.points(), 4);
        deliverAll(x, 2);
        due("16: three on the edge", x.points(), 5);
        due("11: one of them and an input", x.ahead(0), 2);
        deliverAll(x, 2);
        due("11: the later request", x.ahead(1), 5);
    }

    private static void promise17Times() {
        FeedbackFlow x = running(
            new int[][] {{INPUT, 0, 0}, {PLAIN, 0, SUM}, {PLAIN, 0, PASS}, {PLAIN, 0, KEEP}},
            new int[][] {{0, 1}, {1, 2}, {2, 3}, {1, 3}});
        due("17: no such", x.times(-1), BAD);
        due("17: no such", x.times(3), BAD);
        for (int far : FAR) {
            due("17: no such " + far, x.times(far), BAD);
        }
        putAll(x, 0, 1, 2, 3);
        due("17: sent", x.times(2), 3);
        deliverAll(x, 0, 0, 0);
        due("17: close", x.close(0), 0);
        due("17: refused", x.deliver(0), NONE);
        due("17: fire", x.fire(0), 2);
        deliverAll(x, 1, 2, 3);
        due("17: delivered", x.times(0), 6);
        due("17: fired", x.times(1), 1);
        due("17: sent", x.times(2), 6);
    }

    public static void main(String[] args) {
        constants();
        promise1NewObject();
        promise2Vertex();
        promise2WorkCountsForPlainAlone();
        promise3Edge();
        promise3TwelveEdges();
        promise4Start();
        promise5Put();
        promise6Advance();
        promise7Close();
        promise8Refusals();
        promise8Pass();
        promise8EntryExitBack();
        promise8Late();
        promise8LateBeforeFull();
        promise8TakenIsGoneBefore();
        promise8Step();
        promise8StepWithoutSecondIsNeverFull();
        promise8KeepWithEdges();
        promise8Sum();
        promise9and10Requests();
        promise9EpochsBeforeCounters();
        promise10GatheredWraps();
        promise11Ahead();
        promise11NeitherNotLater();
        promise11EdgesAloneCount();
        promise11RingThatMakesEarlier();
        promise11BeyondFifteen();
        promise11FirstCounterCountsFirst();
        promise12Fire();
        promise12GathersAnew();
        promise12MiddleRequestGoes();
        promise13and14Messages();
        promise15Total();
        promise16Points();
        promise16SamePointsApart();
        promise17Times();
        System.out.println(wrong == 0 ? "all answers are as due" : wrong + " answers are not as due");
        if (wrong != 0) {
            System.exit(1);
        }
    }
}
