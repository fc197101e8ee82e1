import java.util.function.Consumer;

/** The sentences of promises 1 to 9, each looked at by a method of its own. */
final class SentencesOfChanges {
    private static final int MIN = Integer.MIN_VALUE;
    private static final int MAX = Integer.MAX_VALUE;

    private final Checks c;

    SentencesOfChanges(Checks c) {
        this.c = c;
    }

    void all() {
        newObject();
        server();
        serverWithRunning();
        routeMade();
        routeRefused();
        routeFull();
        unroute();
        noSuchRoute();
        damage();
        noSuchServer();
        set();
        limit();
        limitRefused();
        advance();
        advanceRefused();
        arrive();
        arriveRefused();
        arriveFull();
        arriveLimited();
        arriveChangesNothing();
        tokenGoes();
        noRoute();
        attemptAtOnce();
        queued();
        queueFull();
    }

    /** Requests in every state, a home, failures and a breaker, so that a change anywhere would be seen. */
    private static void busy(RelayDesk x) {
        x.limit(0, 20, 3);
        x.limit(1, 20, 7);
        x.route(0, 3);
        x.route(01, 4);
        x.server(0, 2, 2, 1);
        x.server(1, 3, 3, 2);
        x.server(2, 1, 4, 1);
        x.damage(2, true);
        x.set(3, 20);
        x.set(5, 9);
        x.set(6, 4);
        for (int k = 0; k < 3; k++) {
            x.arrive(1, 01, 0, 1, 0);
        }
        x.advance(1);
        for (int k = 0; k < 12; k++) {
            x.arrive(k % 2, 0, 20 * k, 2 + k, k % 4);
        }
        x.advance(4);
        x.arrive(2, 0, 0, 5, 1);
    }

    private static void goOn(RelayDesk x) {
        x.advance(3);
        x.arrive(3, 012, 0, 4, 2);
        x.arrive(3, 0, 77, 4, 2);
        x.arrive(0, 0, 77, 4, 3);
        x.advance(6);
        x.arrive(1, 0, 11, 3, 0);
        x.advance(11);
    }

    private void nothingChanges(String call, Consumer<RelayDesk> between) {
        c.alike(call, SentencesOfChanges::busy, between, SentencesOfChanges::goOn);
        c.alike(call + " on a new object", x -> { }, between, SentencesOfChanges::goOn);
    }

    private void newObject() {
        c.says("Time 0, no requests.");
        RelayDesk x = new RelayDesk();
        c.due("time()", x.time(), 0);
        for (int what = 0; what <= 6; what++) {
            c.due("total(" + what + ")", x.total(what), 0);
        }
        for (int request = -33; request <= 33; request++) {
            c.due("state(" + request + ")", x.state(request), -1);
            c.due("about(" + request + ", 0)", x.about(request, 0), -2);
        }
        c.due("queued(-1)", x.queued(-1), 0);
        c.due("queued(0)", x.queued(0), -1);
        c.due("took(-1)", x.took(-1), 0);
        c.due("took(0)", x.took(0), -1);
        for (int client = 0; client < 6; client++) {
            c.due("home(" + client + ")", x.home(client), -1);
        }
        RelayDesk y = new RelayDesk();
        y.arrive(0, 0, 0, 1, 0);
        y.advance(9);
        c.due("another object has nothing of it", new RelayDesk().total(0), 0);
        c.due("another object has nothing of it", new RelayDesk().time(), 0);
    }

    private void server() {
        c.says("Weight, slots and pace of a server: true; false, and nothing changes, if a number is not as said.");
        RelayDesk x = new RelayDesk();
        int[][] good = {{0, 0, 1, 1}, {5, 9, 8, 10}, {0, 9, 1, 10}, {5, 0, 8, 1}};
        for (int[] g : good) {
            c.due("server(" + g[0] + ", " + g[1] + ", " + g[2] + ", " + g[3] + ")",
                x.server(g[0], g[1], g[2], g[3]), true);
        }
        int[][] wrong = {{-1, 5, 5, 5}, {6, 5, 5, 5}, {0, -1, 5, 5}, {0, 10, 5, 5}, {0, 5, 0, 5}, {0, 5, -1, 5},
            {0, 5, 9, 5}, {0, 5, 5, 0}, {0, 5, 5, -1}, {0, 5, 5, 11}, {MIN, 5, 5, 5}, {MAX, 5, 5, 5},
            {0, MIN, 5, 5}, {0, MAX, 5, 5}, {0, 5, MIN, 5}, {0, 5, MAX, 5}, {0, 5, 5, MIN}, {0, 5, 5, MAX}};
        for (int[] w : wrong) {
            String call = "server(" + w[0] + ", " + w[1] + ", " + w[2] + ", " + w[3] + ")";
            c.due(call, x.server(w[0], w[1], w[2], w[3]), false);
            nothingChanges(call, y -> y.server(w[0], w[1], w[2], w[3]));
        }
    }

    private void serverWithRunning() {
        c.says("(Also of one at which requests are running; they go on.)");
        RelayDesk x = Checks.desk(1);
        x.server(0, 1, 8, 2);
        for (int k = 0; k < 8; k++) {
            x.arrive(0, 0, 0, 5, 0);
        }
        c.due("server(0, 0, 1, 10)", x.server(0, 0, 1, 10), true);
        c.due("they go on, though it has weight 0 and one slot", x.at(0, 0), 8);
        c.due("as long as they would have", x.advance(9), 0);
        c.due("as long as they would have", x.advance(1), 8);
        c.due("done", x.total(2), 8);
        x.server(0, 1, 1, 10);
        x.arrive(0, 0, 0, 5, 0);
        c.due("faster from now on", x.server(0, 1, 1, 1), true);
        c.due("as long as it would have", x.advance(49), 0);
        c.due("as long as it would have", x.advance(1), 1);
        RelayDesk y = Checks.desk(3);
        y.server(0, 2, 8, 1);
        y.server(1, 1, 8, 1);
        y.damage(0, true);
        y.damage(1, true);
        for (int k = 0; k < 4; k++) {
            y.arrive(0, 0, 0, 1, 0);
        }
        y.advance(1);
        int[] before = new int[6];
        for (int what = 0; what < 6; what++) {
            before[what] = y.at(0, what);
        }
        c.due("its breaker is shut", before[2], 1);
        y.server(0, 9, 1, 10);
        for (int what = 0; what < 6; what++) {
            c.due("nothing else of it changes, at(0, " + what + ")", y.at(0, what), before[what]);
        }
    }

    private void routeMade() {
        c.says("Makes a route with this path, or gives it other servers (sum of 2^s, 0 .. 63): how many routes there "
            + "are.");
        RelayDesk x = new RelayDesk();
        x.limit(0, 20, 1);
        for (int s = 0; s < 6; s++) {
            x.server(s, 1, 8, 1);
        }
        c.due("the first", x.route(01, 63), 1);
        c.due("the second", x.route(02, 0), 2);
        for (int s = 0; s < 6; s++) {
            c.due("other servers", x.route(02, 1 << s), 2);
            int request = x.arrive(0, 02, 0, 1, 0);
            c.due("server " + s, x.about(request, 0), s);
        }
        c.due("no servers", x.route(02, 0), 2);
        c.due("no servers", x.state(x.arrive(0, 02, 0, 1, 0)), 0);
        c.due("the other route as before", x.about(x.arrive(0, 01, 0, 1, 0), 0), 0);
        x.unroute(02);
        c.due("one less, one more", x.route(0, 1), 2);
    }

    private void routeRefused() {
        c.says("REFUSED if a number is not as said;");
        int[][] wrong = {{-1, 1}, {8, 1}, {64, 1}, {070, 1}, {0101, 1}, {01110, 1}, {4096, 1}, {011111, 1}, {0, -1},
            {0, 64}, {1, 127}, {MIN, 1}, {MAX, 1}, {0, MIN}, {0, MAX}, {-1, 64}};
        for (int[] w : wrong) {
            String call = "route(" + w[0] + ", " + w[1] + ")";
            c.due(call, new RelayDesk().route(w[0], w[1]), -1);
            nothingChanges(call, x -> x.route(w[0], w[1]));
        }
        RelayDesk y = new RelayDesk();
        y.route(0, 64);
        y.route(8, 1);
        c.due("none was made", y.route(1, 1), 1);
    }

    private static final int[] TWELVE = {0, 1, 2, 3, 4, 5, 6, 7, 011, 012, 013, 014};

    /** Twelve routes, to servers 0 .. 5 in turn. */
    private static void twelve(RelayDesk x) {
        for (int k = 0; k < 12; k++) {
            x.route(TWELVE[k], 1 << k % 6);
        }
    }

    private void routeFull() {
        c.says("FULL if there are 12 others.");
        RelayDesk x = new RelayDesk();
        twelve(x);
        c.due("a thirteenth", x.route(015, 1), -2);
        c.due("a thirteenth again", x.route(07777, 63), -2);
        for (int path : TWELVE) {
            c.due("one of the twelve", x.route(path, 2), 12);
        }
        c.due("it was not made", x.unroute(015), false);
        x.unroute(0);
        c.due("with 11 others", x.route(015, 1), 12);
        c.due("with 12 others", x.route(0, 1), -2);
        c.alike("a full route(015, 2)", y -> twelve(y), y -> y.route(015, 2), y -> {
            y.server(0, 1, 1, 1);
            y.server(1, 1, 1, 1);
            y.arrive(0, 015, 0, 1, 0);
            y.arrive(0, 014, 0, 1, 0);
            y.arrive(0, 0, 0, 1, 0);
        });
    }

    private void unroute() {
        c.says("Takes a route away: true;");
        for (int gone = 0; gone < 12; gone++) {
            RelayDesk x = new RelayDesk();
            x.limit(0, 20, 1);
            for (int s = 0; s < 6; s++) {
                x.server(s, 1, 8, 1);
            }
            twelve(x);
            c.due("unroute(" + TWELVE[gone] + ")", x.unroute(TWELVE[gone]), true);
            for (int k = 0; k < 12; k++) {
                int shorter = k == 0 ? -1 : k < 8 ? 0 : 1;
                x.arrive(0, TWELVE[k], 0, 1, 0);
                c.due("path " + TWELVE[k] + " without " + TWELVE[gone], x.about(k, 0), k == gone ? shorter : k % 6);
            }
            c.due("it is gone", x.unroute(TWELVE[gone]), false);
            c.due("there is room for another", x.route(07777, 1), 12);
        }
        RelayDesk y = new RelayDesk();
        y.route(01, 1);
        c.due("the only one", y.unroute(01), true);
        c.due("none is left", y.state(y.arrive(0, 01, 0, 1, 0)), 5);
    }

    private void noSuchRoute() {
        c.says("false if there is none with this path.");
        for (int path : new int[] {0, 1, 8, -1, 4096, MIN, MAX}) {
            c.due("unroute(" + path + ") of a new object", new RelayDesk().unroute(path), false);
        }
        for (int path : new int[] {2, 07, 011, 0123, 8, 16, 020, 0101, -1, 4096, 010000, MIN, MAX}) {
            RelayDesk x = new RelayDesk();
            busy(x);
            c.due("unroute(" + path + ")", x.unroute(path), false);
            nothingChanges("unroute(" + path + ")", y -> y.unroute(path));
        }
    }

    private void damage() {
        c.says("A server is broken from now on, or not: true;");
        for (int s = 0; s < 6; s++) {
            RelayDesk x = Checks.desk(63);
            for (int t = 0; t < 6; t++) {
                x.server(t, 1, 1, 1);
            }
            x.set(2, 0);
            c.due("damage(" + s + ", true)", x.damage(s, true), true);
            c.due("damage(" + s + ", true) again", x.damage(s, true), true);
            for (int t = 0; t < 6; t++) {
                x.arrive(0, 0, 0, 1, 0);
            }
            x.advance(1);
            for (int t = 0; t < 6; t++) {
                c.due("at server " + t, x.state(t), t == s ? 3 : 2);
            }
            c.due("damage(" + s + ", false)", x.damage(s, false), true);
            c.due("damage(" + s + ", false) again", x.damage(s, false), true);
            for (int t = 0; t < 6; t++) {
                x.arrive(0, 0, 0, 1, 0);
            }
            x.advance(1);
            c.due("all are done", x.total(2), 11);
        }
    }

    private void noSuchServer() {
        c.says("false if there is none.");
        for (int s : new int[] {-1, 6, 32, MIN, MAX}) {
            for (boolean broken : new boolean[] {true, false}) {
                c.due("damage(" + s + ", " + broken + ")", new RelayDesk().damage(s, broken), false);
                nothingChanges("damage(" + s + ", " + broken + ")", x -> x.damage(s, broken));
            }
        }
    }

    private void set() {
        c.says("A setting, for what comes: true; false, and nothing changes, if there is none or v is not as said.");
        int[] least = {0, 1, 0, 1, 1, 1, 0};
        int[] greatest = {2, 1000, 3, 1000, 100, 1000, 1000};
        RelayDesk x = new RelayDesk();
        for (int setting = 0; setting < 7; setting++) {
            for (int v = -2; v < 1005; v++) {
                boolean good = v >= least[setting] && v <= greatest[setting];
                c.due("set(" + setting + ", " + v + ")", new RelayDesk().set(setting, v), good);
            }
            for (int v : new int[] {least[setting] - 1, greatest[setting] + 1, MIN, MAX}) {
                int which = setting;
                c.due("set(" + setting + ", " + v + ")", x.set(setting, v), false);
                nothingChanges("set(" + setting + ", " + v + ")", y -> y.set(which, v));
            }
        }
        for (int setting : new int[] {-1, 7, 8, MIN, MAX}) {
            c.due("set(" + setting + ", 1)", x.set(setting, 1), false);
            nothingChanges("set(" + setting + ", 1)", y -> y.set(setting, 1));
        }
        RelayDesk z = Checks.desk(1);
        z.server(0, 1, 8, 1);
        z.arrive(0, 0, 0, 10, 0);
        z.set(1, 3);
        z.arrive(0, 0, 0, 10, 0);
        c.due("for what comes: the second ends by the new TIMEOUT", z.advance(3), 1);
        c.due("for what comes: the second ends by the new TIMEOUT", z.state(1), 3);
        z.advance(7);
        c.due("for what comes: the first had begun before", z.state(0), 2);
        z.set(1, 5);
        z.arrive(0, 0, 0, 8, 0);
        z.set(1, 1000);
        z.advance(5);
        c.due("for what comes: this one had begun before", z.state(2), 3);
        RelayDesk credits = Checks.desk(3);
        credits.server(0, 1, 8, 1);
        credits.server(1, 2, 8, 1);
        credits.arrive(0, 0, 0, 1, 0);
        for (int setting = 0; setting < 7; setting++) {
            credits.set(setting, 1);
        }
        credits.set(0, 0);
        c.due("credits stay", credits.at(0, 5), 1001);
        c.due("credits stay", credits.at(1, 5), 999);
    }

    private void limit() {
        c.says("Capacity (0 .. 20) and refill (1 .. 100) of a client; its bucket is full then.");
        for (int client = 0; client < 6; client++) {
            for (int capacity : new int[] {0, 1, 19, 20}) {
                RelayDesk x = new RelayDesk();
                x.arrive(client, 0, 0, 1, 0);
                c.due("limit(" + client + ", " + capacity + ", 100)", x.limit(client, capacity, 100), true);
                c.due("full", x.tokens(client), capacity);
                c.due("another client", x.tokens((client + 1) % 6), 5);
                for (int k = 0; k < capacity; k++) {
                    c.due("a token", x.arrive(client, 0, 0, 1, 0), k + 1);
                }
                c.due("none is left", x.arrive(client, 0, 0, 1, 0), -3);
                x.advance(99);
                c.due("refill 100, at 99", x.tokens(client), 0);
                x.advance(1);
                c.due("refill 100, at 100", x.tokens(client), Math.min(1, capacity));
                c.due("limit(" + client + ", " + capacity + ", 1)", x.limit(client, capacity, 1), true);
                c.due("full", x.tokens(client), capacity);
                x.arrive(client, 0, 0, 1, 0);
                x.advance(1);
                c.due("refill 1", x.tokens(client), capacity);
                x.advance(100);
                c.due("no more than the capacity", x.tokens(client), capacity);
            }
        }
    }

    private void limitRefused() {
        c.says("False likewise.");
        int[][] wrong = {{-1, 7, 7}, {6, 7, 7}, {0, -1, 7}, {0, 21, 7}, {0, 7, 0}, {0, 7, -1}, {0, 7, 101},
            {MIN, 7, 7}, {MAX, 7, 7}, {0, MIN, 7}, {0, MAX, 7}, {0, 7, MIN}, {0, 7, MAX}};
        for (int[] w : wrong) {
            String call = "limit(" + w[0] + ", " + w[1] + ", " + w[2] + ")";
            c.due(call, new RelayDesk().limit(w[0], w[1], w[2]), false);
            nothingChanges(call, x -> x.limit(w[0], w[1], w[2]));
        }
    }

    private void advance() {
        c.says("n units pass (0 .. 5000): how many requests were done, failed or expired in them.");
        RelayDesk x = Checks.desk(1);
        x.server(0, 1, 8, 1);
        c.due("advance(0)", x.advance(0), 0);
        c.due("advance(0)", x.time(), 0);
        c.due("advance(1)", x.advance(1), 0);
        c.due("advance(1)", x.time(), 1);
        x.arrive(0, 0, 0, 1, 0);
        c.due("advance(0) ends nothing", x.advance(0), 0);
        c.due("advance(0) ends nothing", x.state(0), 1);
        c.due("advance(5000)", x.advance(5000), 1);
        c.due("advance(5000)", x.time(), 5001);
        RelayDesk y = Checks.desk(1);
        y.server(0, 1, 2, 1);
        y.set(5, 5);
        y.set(1, 8);
        y.arrive(0, 0, 0, 6, 0);
        y.arrive(0, 0, 0, 9, 0);
        y.arrive(0, 0, 0, 1, 0);
        y.arrive(0, 02, 0, 1, 0);
        c.due("none yet", y.advance(4), 0);
        c.due("two expired", y.advance(1), 2);
        c.due("one done", y.advance(1), 1);
        c.due("one failed", y.advance(2), 1);
        c.due("not again", y.advance(100), 0);
        RelayDesk z = Checks.desk(1);
        z.set(5, 7);
        for (int k = 0; k < 10; k++) {
            z.arrive(0, 0, 0, 1, 0);
        }
        c.due("eight expired; two were rejected, which do not count", z.advance(5000), 8);
    }

    private void advanceRefused() {
        c.says("REFUSED for another n, or if time would be more than 1000000000.");
        for (int n : new int[] {-1, -5000, 5001, 5002, 1000000000, 1000000001, MIN, MAX}) {
            RelayDesk x = new RelayDesk();
            c.due("advance(" + n + ")", x.advance(n), -1);
            c.due("time() after advance(" + n + ")", x.time(), 0);
            nothingChanges("advance(" + n + ")", y -> y.advance(n));
        }
        latestTime();
    }

    /** No run of 512 calls comes there, so a field is set to look at the limit all the same. */
    private void latestTime() {
        RelayDesk x = new RelayDesk();
        try {
            java.lang.reflect.Field now = RelayDesk.class.getDeclaredField("now");
            now.setAccessible(true);
            now.setInt(x, 999995001);
        } catch (ReflectiveOperationException e) {
            System.out.println("the latest time is not looked at: there is no field 'now'");
            return;
        }
        c.due("advance(5000) at 999995001", x.advance(5000), -1);
        c.due("nothing changed", x.time(), 999995001);
        c.due("advance(4998) at 999995001", x.advance(4998), 0);
        c.due("advance(2) at 999999999", x.advance(2), -1);
        c.due("nothing changed", x.time(), 999999999);
        c.due("advance(1) at 999999999", x.advance(1), 0);
        c.due("time()", x.time(), 1000000000);
        c.due("advance(1) at 1000000000", x.advance(1), -1);
        c.due("advance(5000) at 1000000000", x.advance(5000), -1);
        c.due("advance(0) at 1000000000", x.advance(0), 0);
        c.due("time()", x.time(), 1000000000);
    }

    private void arrive() {
        c.says("A request comes: its number.");
        RelayDesk x = Checks.desk(1);
        for (int k = 0; k < 20; k++) {
            c.due("arrive", x.arrive(0, 0, 0, 1, 0), k);
            c.due("total(0)", x.total(0), k + 1);
            c.due("when it came", x.about(k, 2), k / 2);
            x.advance(k % 2);
        }
    }

    private void arriveRefused() {
        c.says("REFUSED if a number is not as said;");
        int[][] wrong = {{-1, 0, 0, 1, 0}, {6, 0, 0, 1, 0}, {0, -1, 0, 1, 0}, {0, 8, 0, 1, 0}, {0, 0101, 0, 1, 0},
            {0, 4096, 0, 1, 0}, {0, 011111, 0, 1, 0}, {0, 0, -1, 1, 0}, {0, 0, 256, 1, 0}, {0, 0, 0, 0, 0},
            {0, 0, 0, -1, 0}, {0, 0, 0, 101, 0}, {0, 0, 0, 1, -1}, {0, 0, 0, 1, 4}, {MIN, 0, 0, 1, 0},
            {MAX, 0, 0, 1, 0}, {0, MIN, 0, 1, 0}, {0, MAX, 0, 1, 0}, {0, 0, MIN, 1, 0}, {0, 0, MAX, 1, 0},
            {0, 0, 0, MIN, 0}, {0, 0, 0, MAX, 0}, {0, 0, 0, 1, MIN}, {0, 0, 0, 1, MAX}};
        for (int[] w : wrong) {
            String call = "arrive" + java.util.Arrays.toString(w);
            RelayDesk x = new RelayDesk();
            c.due(call, x.arrive(w[0], w[1], w[2], w[3], w[4]), -1);
            c.due("total(6)", x.total(6), 0);
            nothingChanges(call, y -> y.arrive(w[0], w[1], w[2], w[3], w[4]));
        }
        int[][] good = {{0, 0, 0, 1, 0}, {5, 07777, 255, 100, 3}};
        for (int[] g : good) {
            c.due("arrive" + java.util.Arrays.toString(g),
                new RelayDesk().arrive(g[0], g[1], g[2], g[3], g[4]), 0);
        }
    }

    /** Request `before` does not end soon, and 31 others that are rejected come behind it. */
    private static void full(RelayDesk x, int before, boolean queued) {
        for (int client = 0; client < 6; client++) {
            x.limit(client, 20, 100);
        }
        for (int k = 0; k < before; k++) {
            x.arrive(k % 6, 0, 0, 1, 0);
        }
        x.server(0, 1, 1, 1);
        x.route(01, queued ? 2 : 1);
        x.arrive(0, 01, 0, 90, 0);
        for (int k = 0; k < 31; k++) {
            x.arrive(k % 5 + 1, 0, 0, 1, 0);
        }
    }

    private void arriveFull() {
        c.says("FULL if the request with the number that is less by 32 is still queued or running;");
        for (int before : new int[] {0, 1, 31, 32, 33, 40}) {
            for (boolean queued : new boolean[] {false, true}) {
                RelayDesk x = new RelayDesk();
                full(x, before, queued);
                c.due("all others came", x.total(0), before + 32);
                c.due("it is queued or running", x.state(before), queued ? 0 : 1);
                c.due("FULL", x.arrive(0, 0, 0, 1, 0), -2);
                c.due("FULL, whatever its path", x.arrive(0, 01, 0, 1, 3), -2);
                x.advance(queued ? 99 : 89);
                c.due("FULL a unit before it ends", x.arrive(0, 0, 0, 1, 0), -2);
                x.advance(1);
                c.due("it has ended", x.state(before), queued ? 4 : 2);
                c.due("not FULL any more", x.arrive(0, 0, 0, 1, 0), before + 32);
                c.due("its place is taken", x.state(before), -1);
            }
        }
        RelayDesk y = new RelayDesk();
        full(y, 0, false);
        y.damage(0, true);
        y.advance(90);
        c.due("failed", y.state(0), 3);
        c.due("failed: not FULL", y.arrive(0, 0, 0, 1, 0), 32);
        RelayDesk fewer = new RelayDesk();
        fewer.route(0, 1);
        fewer.arrive(0, 0, 0, 1, 0);
        c.due("before there are 32 none is FULL", fewer.arrive(0, 0, 0, 1, 0), 1);
    }

    private void arriveLimited() {
        c.says("LIMITED if the client has no token;");
        for (int client = 0; client < 6; client++) {
            RelayDesk x = new RelayDesk();
            x.limit(client, 1, 10);
            c.due("one token", x.arrive(client, 0, 0, 1, 0), 0);
            c.due("no token", x.arrive(client, 0, 0, 1, 0), -3);
            c.due("another client", x.arrive((client + 1) % 6, 0, 0, 1, 0), 1);
            x.advance(9);
            c.due("no token at 9", x.arrive(client, 0, 0, 1, 0), -3);
            x.advance(1);
            c.due("a token at 10", x.arrive(client, 0, 0, 1, 0), 2);
            c.due("no token", x.arrive(client, 0, 0, 1, 0), -3);
            c.due("total(6)", x.total(6), 3);
        }
    }

    private void arriveChangesNothing() {
        c.says("in these cases nothing changes (but what total(6) counts).");
        c.alike("a FULL arrive", x -> full(x, 3, false), x -> x.arrive(0, 01, 0, 1, 0), x -> x.advance(95));
        c.alike("a FULL arrive", x -> full(x, 3, true), x -> x.arrive(0, 01, 0, 1, 3), x -> x.advance(150));
        nothingChanges("a LIMITED arrive", x -> {
            for (int k = 0; k < 9; k++) {
                x.arrive(5, 02, 0, 1, 3);
            }
        }, 5);
        RelayDesk y = new RelayDesk();
        full(y, 0, false);
        y.limit(5, 0, 1);
        c.due("FULL", y.arrive(0, 0, 0, 1, 0), -2);
        c.due("FULL, and no token", y.arrive(5, 0, 0, 1, 0), -2);
        c.due("REFUSED, and FULL", y.arrive(5, 0, 0, 0, 0), -1);
        c.due("total(6) counts none of these", y.total(6), 0);
        c.due("total(0)", y.total(0), 32);
        RelayDesk z = new RelayDesk();
        z.limit(5, 0, 1);
        c.due("REFUSED, and no token", z.arrive(5, 0, 0, 101, 0), -1);
        c.due("total(6) does not count it", z.total(6), 0);
        c.due("LIMITED", z.arrive(5, 0, 0, 100, 0), -3);
        c.due("total(6) counts it", z.total(6), 1);
        c.due("total(0) does not", z.total(0), 0);
        c.due("total(5) does not", z.total(5), 0);
        c.due("tokens are not below 0", z.tokens(5), 0);
    }

    /** As above, with a client whose tokens have gone before. */
    private void nothingChanges(String call, Consumer<RelayDesk> between, int client) {
        c.alike(call, x -> {
            busy(x);
            x.limit(client, 0, 1);
        }, between, SentencesOfChanges::goOn);
    }

    private void tokenGoes() {
        c.says("One of its tokens goes.");
        RelayDesk x = new RelayDesk();
        x.route(01, 1);
        x.server(0, 1, 1, 1);
        x.arrive(0, 01, 0, 1, 0);
        c.due("of a running one", x.tokens(0), 4);
        x.arrive(0, 01, 0, 1, 0);
        c.due("of a queued one", x.tokens(0), 3);
        x.arrive(0, 0, 0, 1, 0);
        c.due("of a rejected one", x.tokens(0), 2);
        x.arrive(0, 0, 0, 1, 0);
        x.arrive(0, 0, 0, 1, 0);
        c.due("of the last one", x.tokens(0), 0);
        for (int client = 1; client < 6; client++) {
            c.due("of no other client", x.tokens(client), 5);
        }
    }

    private void noRoute() {
        c.says("If it has no route it is rejected;");
        RelayDesk x = new RelayDesk();
        x.server(0, 1, 8, 1);
        x.advance(6);
        c.due("no route at all", x.state(x.arrive(0, 0, 0, 1, 0)), 5);
        x.route(01, 1);
        c.due("another path", x.state(x.arrive(0, 02, 0, 1, 3)), 5);
        c.due("the empty path", x.state(x.arrive(0, 0, 0, 1, 3)), 5);
        c.due("a route", x.state(x.arrive(0, 01, 0, 1, 3)), 1);
        c.due("when", x.about(0, 3), 6);
        c.due("no attempt", x.about(0, 1), 0);
        c.due("no server", x.about(0, 0), -1);
        c.due("not queued", x.queued(-1), 0);
        c.due("total(5)", x.total(5), 3);
    }

    private void attemptAtOnce() {
        c.says("else, if a server is ready for it, it makes an attempt;");
        RelayDesk x = Checks.desk(1);
        for (int k = 0; k < 8; k++) {
            x.arrive(0, 0, 0, 9, 3);
        }
        x.server(0, 1, 1, 1);
        x.arrive(1, 0, 0, 5, 0);
        c.due("though the queue is full of greater ranks", x.state(8), 1);
        c.due("its server", x.about(8, 0), 0);
        c.due("one attempt", x.about(8, 1), 1);
        c.due("8 are queued", x.queued(-1), 8);
        c.due("it runs from now on", x.advance(4), 0);
        c.due("it runs from now on", x.advance(1), 1);
    }

    private void queued() {
        c.says("else it is queued;");
        RelayDesk x = Checks.desk(1);
        x.server(0, 1, 1, 1);
        x.arrive(0, 0, 0, 9, 0);
        for (int k = 1; k <= 8; k++) {
            x.arrive(0, 0, 0, 9, 0);
            c.due("state", x.state(k), 0);
            c.due("how many", x.queued(-1), k);
            c.due("the last", x.queued(k - 1), k);
            c.due("no attempt", x.about(k, 1), 0);
            c.due("no end", x.about(k, 3), -1);
        }
    }

    private void queueFull() {
        c.says("but if 8 are, it is rejected itself unless the last one has a lower rank, which is rejected then in "
            + "its place.");
        for (int last = 0; last <= 3; last++) {
            for (int rank = 0; rank <= 3; rank++) {
                RelayDesk x = Checks.desk(1);
                for (int k = 0; k < 8; k++) {
                    x.arrive(0, 0, 0, 9, last);
                }
                x.advance(2);
                x.arrive(0, 0, 0, 9, rank);
                int loser = last < rank ? 7 : 8;
                String what = "rank " + rank + " after rank " + last;
                for (int k = 0; k <= 8; k++) {
                    c.due(what + ", state(" + k + ")", x.state(k), k == loser ? 5 : 0);
                    c.due(what + ", about(" + k + ", 3)", x.about(k, 3), k == loser ? 2 : -1);
                }
                c.due(what + ", how many", x.queued(-1), 8);
                c.due(what + ", the first", x.queued(0), last < rank ? 8 : 0);
                c.due(what + ", the last", x.queued(7), last < rank ? 6 : 7);
                c.due(what + ", total(5)", x.total(5), 1);
                c.due(what + ", total(0)", x.total(0), 9);
            }
        }
        RelayDesk y = Checks.desk(1);
        int[] ranks = {0, 3, 0, 1, 2, 0, 3, 1};
        for (int rank : ranks) {
            y.arrive(0, 0, 0, 9, rank);
        }
        y.arrive(0, 0, 0, 9, 1);
        int[] order = {1, 6, 4, 3, 7, 8, 0, 2};
        for (int k = 0; k < 8; k++) {
            c.due("mixed ranks, place " + k, y.queued(k), order[k]);
        }
        c.due("the last of the lowest rank", y.state(5), 5);
    }
}
