/** The sentences of the document's part "Terms" about things and numbers, each looked at by a method of its own. */
final class SentencesOfTerms {
    private static final int MIN = Integer.MIN_VALUE;
    private static final int MAX = Integer.MAX_VALUE;

    private final Checks c;

    SentencesOfTerms(Checks c) {
        this.c = c;
    }

    void all() {
        time();
        serverNumbers();
        serverFirstState();
        requestNumbers();
        requestParts();
        queue();
        policy();
        timeout();
        retries();
        rest();
        check();
        waiting();
        stay();
        paths();
        routes();
        longestPath();
        buckets();
        tokensCome();
    }

    private void time() {
        c.says("TIME is a number of UNITS, 0 at first.");
        RelayDesk x = new RelayDesk();
        c.due("time()", x.time(), 0);
        x.advance(1);
        c.due("time() after a unit", x.time(), 1);
    }

    private void serverNumbers() {
        c.says("SERVERS 0 .. 5 have a WEIGHT 0 .. 9, SLOTS 1 .. 8, a PACE 1 .. 10 (at first 0, 1, 1),");
        RelayDesk x = new RelayDesk();
        for (int k = -2; k < 14; k++) {
            c.due("server(" + k + ", 1, 1, 1)", x.server(k, 1, 1, 1), k >= 0 && k <= 5);
            c.due("server(0, " + k + ", 1, 1)", x.server(0, k, 1, 1), k >= 0 && k <= 9);
            c.due("server(0, 1, " + k + ", 1)", x.server(0, 1, k, 1), k >= 1 && k <= 8);
            c.due("server(0, 1, 1, " + k + ")", x.server(0, 1, 1, k), k >= 1 && k <= 10);
        }
        for (int k : new int[] {MIN, MAX}) {
            c.due("server(" + k + ", 1, 1, 1)", x.server(k, 1, 1, 1), false);
            c.due("server(0, " + k + ", 1, 1)", x.server(0, k, 1, 1), false);
            c.due("server(0, 1, " + k + ", 1)", x.server(0, 1, k, 1), false);
            c.due("server(0, 1, 1, " + k + ")", x.server(0, 1, 1, k), false);
        }
        RelayDesk y = Checks.desk(63);
        y.arrive(0, 0, 0, 1, 0);
        y.advance(1);
        c.due("at first weight 0: none is ready", y.state(0), 0);
        for (int s = 0; s < 6; s++) {
            RelayDesk z = Checks.desk(1 << s);
            z.server(s, 9, 8, 10);
            for (int k = 0; k < 9; k++) {
                z.arrive(0, 0, 0, 1, 0);
            }
            c.due("8 slots of server " + s, z.at(s, 0), 8);
            c.due("the ninth waits", z.state(8), 0);
            c.due("pace 10 of server " + s, z.advance(9), 0);
            c.due("pace 10 of server " + s, z.advance(1), 8);
            c.due("the ninth runs", z.state(8), 1);
        }
    }

    private void serverFirstState() {
        c.says("are BROKEN or not (at first not), UP or not (at first up), and have a BREAKER, closed or shut till "
            + "some time (at first closed), a count of FAILURES in a row, and a CREDIT, 0 at first.");
        for (int s = 0; s < 6; s++) {
            RelayDesk x = Checks.desk(1 << s);
            x.server(s, 1, 1, 1);
            c.due("up", x.at(s, 1), 1);
            c.due("breaker", x.at(s, 2), 0);
            c.due("failures", x.at(s, 3), 0);
            c.due("credit", x.at(s, 5), 1000);
            x.arrive(0, 0, 0, 1, 0);
            x.advance(1);
            c.due("not broken", x.state(0), 2);
            x.advance(100);
            c.due("up after its checks", x.at(s, 1), 1);
        }
    }

    private void requestNumbers() {
        c.says("REQUESTS are numbered 0, 1, .. as they come;");
        RelayDesk x = new RelayDesk();
        x.limit(1, 0, 1);
        c.due("the first", x.arrive(0, 0, 0, 1, 0), 0);
        c.due("a refused one", x.arrive(0, 0, 0, 0, 0), -1);
        c.due("a limited one", x.arrive(1, 0, 0, 1, 0), -3);
        c.due("the second", x.arrive(0, 0, 0, 1, 0), 1);
        for (int k = 2; k < 100; k++) {
            x.limit(0, 1, 1);
            c.due("number " + k, x.arrive(0, 0, 0, 1, 0), k);
        }
    }

    private void requestParts() {
        c.says("each has a PATH, a KEY 0 .. 255, WORK 1 .. 100, a RANK 0 .. 3, and is QUEUED (0), RUNNING (1), "
            + "DONE (2), FAILED (3), EXPIRED (4) or REJECTED (5).");
        int[][] edges = {{-1, 0, 255, 256}, {0, 1, 100, 101}, {-1, 0, 3, 4}};
        RelayDesk x = new RelayDesk();
        x.limit(0, 20, 1);
        for (int part = 0; part < 3; part++) {
            for (int k = 0; k < 6; k++) {
                int v = k < 4 ? edges[part][k] : k == 4 ? MIN : MAX;
                int got = x.arrive(0, 0, part == 0 ? v : 9, part == 1 ? v : 9, part == 2 ? v : 1);
                c.due(new String[] {"key ", "work ", "rank "}[part] + v, got >= 0, k == 1 || k == 2);
                c.due("otherwise REFUSED", got >= -1, true);
            }
        }
        RelayDesk y = Checks.desk(1);
        y.set(5, 3);
        y.server(0, 1, 1, 1);
        y.arrive(0, 0, 0, 2, 0);
        y.arrive(0, 0, 0, 50, 0);
        c.due("running", y.state(0), 1);
        c.due("queued", y.state(1), 0);
        y.advance(2);
        c.due("done", y.state(0), 2);
        y.arrive(0, 0, 0, 1, 0);
        y.damage(0, true);
        y.advance(3);
        c.due("expired", y.state(2), 4);
        y.advance(47);
        c.due("failed", y.state(1), 3);
        y.unroute(0);
        y.arrive(0, 0, 0, 1, 0);
        c.due("rejected", y.state(3), 5);
    }

    private void queue() {
        c.says("At most 8 are queued, in the order of their ranks, the greatest first, of one rank in the order in "
            + "which they came.");
        RelayDesk x = Checks.desk(1);
        c.due("empty", x.queued(-1), 0);
        int[] ranks = {0, 3, 1, 3, 2, 0, 2, 1};
        int[][] orders = {{0}, {1, 0}, {1, 2, 0}, {1, 3, 2, 0}, {1, 3, 4, 2, 0}, {1, 3, 4, 2, 0, 5},
            {1, 3, 4, 6, 2, 0, 5}, {1, 3, 4, 6, 2, 7, 0, 5}};
        for (int k = 0; k < 8; k++) {
            x.arrive(0, 0, 0, 1, ranks[k]);
            c.due("how many", x.queued(-1), k + 1);
            for (int place = 0; place <= k; place++) {
                c.due("place " + place + " of " + (k + 1), x.queued(place), orders[k][place]);
            }
        }
        x.arrive(0, 0, 0, 1, 0);
        c.due("a ninth", x.queued(-1), 8);
        x.arrive(0, 0, 0, 1, 3);
        c.due("a ninth of another rank", x.queued(-1), 8);
        c.due("after its equals", x.queued(2), 9);
    }

    /** Answers the server for key 100; only TURNS changes credits. Server 1 has its point at 114. */
    private static int serverByPolicy(RelayDesk x) {
        x.route(0, 3);
        x.server(0, 1, 8, 1);
        x.server(1, 2, 8, 1);
        int request = x.arrive(0, 0, 100, 1, 0);
        return x.about(request, 0) + (x.at(0, 5) != 1000 ? 10 : 0);
    }

    private void policy() {
        c.says("SETTINGS: 0 the POLICY 0 .. 2 (at first 0),");
        c.due("at first", serverByPolicy(new RelayDesk()), 11);
        int[] servers = {11, 0, 1};
        for (int v = 0; v <= 2; v++) {
            RelayDesk x = new RelayDesk();
            c.due("set(0, " + v + ")", x.set(0, v), true);
            for (int w : new int[] {-1, 3, MIN, MAX}) {
                c.due("set(0, " + w + ")", x.set(0, w), false);
            }
            c.due("policy " + v, serverByPolicy(x), servers[v]);
        }
        RelayDesk y = new RelayDesk();
        y.set(0, 2);
        c.due("back to the first", y.set(0, 0), true);
        c.due("back to the first", serverByPolicy(y), 11);
    }

    private RelayDesk deskWithSetting(int setting, int v, int... wrong) {
        RelayDesk x = Checks.desk(1);
        x.server(0, 1, 8, 1);
        c.due("set(" + setting + ", " + v + ")", x.set(setting, v), true);
        for (int w : wrong) {
            c.due("set(" + setting + ", " + w + ")", x.set(setting, w), false);
        }
        return x;
    }

    /** How many units a request of the work given runs at the pace given, and 1000000 more if it failed. */
    private static int unitsRun(RelayDesk x, int work, int pace) {
        x.server(0, 1, 8, pace);
        int request = x.arrive(0, 0, 0, work, 0);
        x.advance(1000);
        return x.about(request, 3) - x.about(request, 2) + (x.state(request) == 3 ? 1000000 : 0);
    }

    private void timeout() {
        c.says("1 TIMEOUT 1 .. 1000 (100),");
        c.due("at first, 100 units", unitsRun(Checks.desk(1), 100, 1), 100);
        c.due("at first, 102 units", unitsRun(Checks.desk(1), 51, 2), 1000100);
        c.due("1, 1 unit", unitsRun(deskWithSetting(1, 1, 0, 1001), 1, 1), 1);
        c.due("1, 2 units", unitsRun(deskWithSetting(1, 1, -1, MIN), 1, 2), 1000001);
        c.due("1000, 1000 units", unitsRun(deskWithSetting(1, 1000, 1001, MAX), 100, 10), 1000);
        c.due("999, 1000 units", unitsRun(deskWithSetting(1, 999, 0), 100, 10), 1000999);
    }

    /** How many attempts are made while all six servers are broken. */
    private static int attemptsMade(RelayDesk x) {
        x.route(0, 63);
        for (int s = 0; s < 6; s++) {
            x.server(s, 1, 8, 1);
            x.damage(s, true);
        }
        int request = x.arrive(0, 0, 0, 1, 0);
        x.advance(10);
        return x.about(request, 1);
    }

    private void retries() {
        c.says("2 RETRIES 0 .. 3 (1),");
        c.due("at first", attemptsMade(Checks.desk(1)), 2);
        for (int v = 0; v <= 3; v++) {
            c.due("RETRIES " + v, attemptsMade(deskWithSetting(2, v, -1, 4, MIN, MAX)), v + 1);
        }
    }

    /** The breaker so many units after it was shut. */
    private static int breakerAfter(RelayDesk x, int units) {
        x.server(0, 1, 8, 1);
        x.damage(0, true);
        for (int k = 0; k < 3; k++) {
            x.arrive(0, 0, 0, 1, 0);
        }
        x.advance(1);
        x.advance(units);
        return x.at(0, 2);
    }

    private void rest() {
        c.says("3 REST 1 .. 1000 (50),");
        c.due("at first, 49 later", breakerAfter(Checks.desk(1), 49), 1);
        c.due("at first, 50 later", breakerAfter(Checks.desk(1), 50), 2);
        c.due("1, in the same unit", breakerAfter(deskWithSetting(3, 1, 0, 1001, MIN, MAX), 0), 1);
        c.due("1, 1 later", breakerAfter(deskWithSetting(3, 1, 0, 1001, MIN, MAX), 1), 2);
        c.due("1000, 999 later", breakerAfter(deskWithSetting(3, 1000, 1001, 0, -1), 999), 1);
        c.due("1000, 1000 later", breakerAfter(deskWithSetting(3, 1000, 1001, 0, -1), 1000), 2);
    }

    /** When a server that is broken from the start goes down. */
    private static int downAt(RelayDesk x) {
        x.damage(0, true);
        for (int time = 0; time < 250; time++) {
            if (x.at(0, 1) == 0) {
                return time;
            }
            x.advance(1);
        }
        return -1;
    }

    private void check() {
        c.says("4 CHECK 1 .. 100 (10),");
        c.due("at first", downAt(new RelayDesk()), 20);
        c.due("1", downAt(deskWithSetting(4, 1, 0, 101, MIN, MAX)), 2);
        c.due("100", downAt(deskWithSetting(4, 100, 101, 0, -1)), 200);
    }

    private static int expiredAt(RelayDesk x) {
        x.server(0, 0, 1, 1);
        x.arrive(0, 0, 0, 1, 0);
        x.advance(1100);
        return x.about(0, 3);
    }

    private void waiting() {
        c.says("5 WAIT 1 .. 1000 (100),");
        c.due("at first", expiredAt(Checks.desk(1)), 100);
        c.due("1", expiredAt(deskWithSetting(5, 1, 0, 1001, MIN, MAX)), 1);
        c.due("1000", expiredAt(deskWithSetting(5, 1000, 1001, 0, -1)), 1000);
    }

    /** Whether a client goes home after so many units; by TURNS it would go to server 1. */
    private static boolean goesHome(RelayDesk x, int later) {
        x.server(0, 1, 8, 1);
        x.server(1, 9, 8, 1);
        x.route(0, 1);
        x.arrive(0, 0, 0, 1, 0);
        x.advance(1);
        x.advance(later);
        x.route(0, 3);
        return x.about(x.arrive(0, 0, 0, 1, 0), 0) == 0;
    }

    private void stay() {
        c.says("6 STAY 0 .. 1000 (0).");
        c.due("at first", goesHome(Checks.desk(1), 0), false);
        c.due("0", goesHome(deskWithSetting(6, 0, -1, 1001, MIN, MAX), 0), false);
        c.due("1, 1 later", goesHome(deskWithSetting(6, 1), 1), true);
        c.due("1, 2 later", goesHome(deskWithSetting(6, 1), 2), false);
        c.due("1000, 1000 later", goesHome(deskWithSetting(6, 1000, 1001, -1), 1000), true);
        c.due("1000, 1001 later", goesHome(deskWithSetting(6, 1000), 1001), false);
        RelayDesk x = deskWithSetting(6, 1000);
        c.due("0 again", x.set(6, 0), true);
        c.due("0 again", goesHome(x, 0), false);
    }

    private void paths() {
        c.says("PATHS are rows of up to 4 labels 1 .. 7, written as numbers to the base 8, the first label the "
            + "highest digit (0: the empty row).");
        for (int path = -70; path < 33000; path++) {
            String row = path <= 0 ? "" : Integer.toOctalString(path);
            boolean good = path >= 0 && row.length() <= 4 && !row.contains("0");
            c.due("route(" + path + ", 1)", new RelayDesk().route(path, 1), good ? 1 : -1);
            c.due("arrive with path " + path, new RelayDesk().arrive(0, path, 0, 1, 0), good ? 0 : -1);
        }
        for (int path : new int[] {MIN, MIN + 1, MAX, MAX - 1, 1 << 30, 01111111111}) {
            c.due("route(" + path + ", 1)", new RelayDesk().route(path, 1), -1);
            c.due("arrive with path " + path, new RelayDesk().arrive(0, path, 0, 1, 0), -1);
        }
        RelayDesk x = Checks.desk(1);
        x.server(0, 1, 8, 1);
        x.server(1, 1, 8, 1);
        x.route(01, 2);
        x.arrive(0, 012, 0, 1, 0);
        x.arrive(0, 021, 0, 1, 0);
        c.due("the first label is the highest digit", x.about(0, 0), 1);
        c.due("the last label is the lowest digit", x.about(1, 0), 0);
    }

    private static final int[] TWELVE = {0, 1, 7, 011, 017, 071, 0111, 0117, 01111, 01117, 07111, 07777};

    private void routes() {
        c.says("ROUTES, at most 12, have a path each, all different, and some of the servers.");
        RelayDesk x = new RelayDesk();
        x.limit(0, 20, 1);
        for (int s = 0; s < 6; s++) {
            x.server(s, 1, 8, 1);
        }
        for (int k = 0; k < 12; k++) {
            c.due("route " + k, x.route(TWELVE[k], 1 << k % 6), k + 1);
            c.due("the same path makes no other", x.route(TWELVE[k], 1 << k % 6), k + 1);
        }
        c.due("a thirteenth", x.route(2, 1), -2);
        for (int k = 0; k < 12; k++) {
            x.arrive(0, TWELVE[k], 0, 1, 0);
            c.due("each has its own servers, route " + k, x.about(k, 0), k % 6);
        }
        RelayDesk y = Checks.desk(0);
        y.server(0, 1, 8, 1);
        y.arrive(0, 0, 0, 1, 0);
        c.due("a route without servers", y.state(0), 0);
        RelayDesk z = Checks.desk(63);
        for (int s = 0; s < 6; s++) {
            z.server(s, 1, 1, 1);
        }
        for (int s = 0; s < 7; s++) {
            z.arrive(0, 0, 0, 1, 0);
            c.due("a route with all servers", z.about(s, 0), s < 6 ? s : -1);
        }
    }

    private void longestPath() {
        c.says("A request's route is that with the longest path with which its own begins.");
        int[] rows = {0, 01, 012, 0123, 01234};
        int[][] orders = {{0, 1, 2, 3, 4}, {4, 3, 2, 1, 0}, {2, 0, 4, 1, 3}};
        for (int[] order : orders) {
            RelayDesk x = Checks.desk(0);
            x.unroute(0);
            for (int k : order) {
                x.route(rows[k], 1 << k);
                x.server(k, 1, 8, 1);
            }
            int[] paths = {0, 01, 012, 0123, 01234, 02, 0112, 0122, 01243, 01235, 01233, 07777, 0212, 034};
            int[] servers = {0, 1, 2, 3, 4, 0, 1, 2, 2, 3, 3, 0, 0, 0};
            for (int k = 0; k < paths.length; k++) {
                x.arrive(0, paths[k], 0, 1, 0);
                c.due("path 0" + Integer.toOctalString(paths[k]), x.about(k, 0), servers[k]);
            }
        }
        RelayDesk y = Checks.desk(1);
        y.server(0, 1, 8, 1);
        y.route(01, 2);
        y.arrive(0, 01, 0, 1, 0);
        c.due("not a shorter one whose servers are ready", y.state(0), 0);
        RelayDesk z = new RelayDesk();
        z.route(0123, 63);
        z.arrive(0, 012, 0, 1, 0);
        c.due("a route longer than the request's path", z.state(0), 5);
        z.arrive(0, 0, 0, 1, 0);
        c.due("a route and the empty path", z.state(1), 5);
        z.arrive(0, 01234, 0, 1, 0);
        c.due("a route shorter than the request's path", z.state(2), 0);
        z.arrive(0, 04123, 0, 1, 0);
        c.due("a route that is the end of the request's path", z.state(3), 5);
    }

    private void buckets() {
        c.says("BUCKETS: client 0 .. 5 has tokens, up to a CAPACITY (at first 5, and as many tokens).");
        for (int client = -1; client <= 6; client++) {
            boolean there = client >= 0 && client <= 5;
            RelayDesk x = new RelayDesk();
            c.due("tokens(" + client + ")", x.tokens(client), there ? 5 : -1);
            x.advance(50);
            c.due("no more than 5", x.tokens(client), there ? 5 : -1);
            for (int k = 0; k < 5; k++) {
                c.due("arrive of client " + client, x.arrive(client, 0, 0, 1, 0), there ? k : -1);
            }
            c.due("empty", x.tokens(client), there ? 0 : -1);
            c.due("a sixth", x.arrive(client, 0, 0, 1, 0), there ? -3 : -1);
            x.advance(100);
            c.due("full again", x.tokens(client), there ? 5 : -1);
        }
    }

    private void tokensCome() {
        c.says("One comes, if there is room, in every unit whose time is a multiple of its REFILL (at first 10).");
        RelayDesk x = new RelayDesk();
        for (int k = 0; k < 5; k++) {
            x.arrive(4, 0, 0, 1, 0);
        }
        for (int time = 1; time <= 60; time++) {
            x.advance(1);
            c.due("at first 10, time " + time, x.tokens(4), Math.min(5, time / 10));
        }
        for (int refill : new int[] {1, 2, 3, 99, 100}) {
            RelayDesk y = new RelayDesk();
            y.advance(1);
            y.limit(4, 2, refill);
            y.arrive(4, 0, 0, 1, 0);
            y.arrive(4, 0, 0, 1, 0);
            for (int time = 2; time <= 205; time++) {
                y.advance(1);
                int come = time / refill - 1 / refill;
                c.due("refill " + refill + ", time " + time, y.tokens(4), Math.min(2, come));
            }
        }
        RelayDesk z = new RelayDesk();
        z.limit(4, 0, 1);
        z.advance(1);
        c.due("no room at all", z.tokens(4), 0);
    }
}
