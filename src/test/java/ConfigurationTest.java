/** Promises 1 to 7: a new object, server, route, unroute, damage, set, limit. */
public final class ConfigurationTest {
    private static final Checks C = new Checks();

    public static void main(String[] args) {
        newObject();
        serverNumbers();
        serverLeavesRunningAttempts();
        serverRefusedChangesNothing();
        routeNumbers();
        everyPath();
        routeCountsAndReplaces();
        routeFull();
        longestPathWins();
        unroute();
        unrouteLeavesTheOthers();
        damage();
        setRanges();
        setFirstValues();
        limitNumbers();
        limitFillsTheBucket();
        C.end();
    }

    private static void newObject() {
        RelayDesk x = new RelayDesk();
        C.due("P1 time", x.time(), 0);
        for (int what = 0; what <= 6; what++) {
            C.due("P1 total(" + what + ")", x.total(what), 0);
        }
        C.due("P1 state(0)", x.state(0), -1);
        C.due("P1 about(0, 0)", x.about(0, 0), -2);
        C.due("P1 queued(-1)", x.queued(-1), 0);
        C.due("P1 took(-1)", x.took(-1), 0);
        int[] first = {0, 1, 0, 0, 0, 1000};
        for (int s = 0; s < 6; s++) {
            C.due("P1 tokens(" + s + ")", x.tokens(s), 5);
            C.due("P1 home(" + s + ")", x.home(s), -1);
            for (int what = 0; what < 6; what++) {
                C.due("P1 at(" + s + ", " + what + ")", x.at(s, what), first[what]);
            }
        }
        C.due("P1 a first request", x.arrive(0, 0, 0, 1, 0), 0);
        C.due("P1 there is no route at first", x.state(0), 5);
    }

    private static void serverNumbers() {
        RelayDesk x = new RelayDesk();
        C.due("P2 server(0, 0, 1, 1)", x.server(0, 0, 1, 1), true);
        C.due("P2 server(5, 9, 8, 10)", x.server(5, 9, 8, 10), true);
        int[][] wrong = {{-1, 1, 1, 1}, {6, 1, 1, 1}, {0, -1, 1, 1}, {0, 10, 1, 1}, {0, 1, 0, 1}, {0, 1, 9, 1},
            {0, 1, 1, 0}, {0, 1, 1, 11}, {Integer.MIN_VALUE, 1, 1, 1}, {Integer.MAX_VALUE, 1, 1, 1}};
        for (int[] w : wrong) {
            C.due("P2 server" + java.util.Arrays.toString(w), x.server(w[0], w[1], w[2], w[3]), false);
        }
    }

    private static void serverLeavesRunningAttempts() {
        RelayDesk x = Checks.desk(1);
        x.server(0, 1, 2, 3);
        x.arrive(0, 0, 0, 2, 0);
        x.arrive(0, 0, 0, 2, 0);
        C.due("P2 server at which two run", x.server(0, 0, 1, 10), true);
        C.due("P2 they go on", x.at(0, 0), 2);
        C.due("P2 not done before their first pace says", x.advance(5), 0);
        C.due("P2 done when their first pace says", x.advance(1), 2);
        x.arrive(0, 0, 0, 1, 0);
        C.due("P2 weight 0 is never ready", x.state(2), 0);
        x.server(0, 1, 1, 10);
        x.advance(1);
        C.due("P2 ready with a weight again", x.state(2), 1);
        C.due("P2 the new pace", x.advance(9), 0);
        C.due("P2 the new pace", x.advance(1), 1);
    }

    private static void serverRefusedChangesNothing() {
        RelayDesk x = Checks.desk(1);
        x.server(0, 1, 2, 2);
        x.server(0, 0, 1, 11);
        x.server(0, 10, 1, 1);
        x.server(0, 0, 9, 1);
        x.arrive(0, 0, 0, 1, 0);
        x.arrive(0, 0, 0, 1, 0);
        C.due("P2 weight and slots as before", x.at(0, 0), 2);
        C.due("P2 pace as before", x.advance(1), 0);
        C.due("P2 pace as before", x.advance(1), 2);
    }

    private static void routeNumbers() {
        RelayDesk x = new RelayDesk();
        int[] wrongPaths = {-1, 8, 16, 64, 65, 72, 512, 513, 520, 584, 4096, 4681, 32768,
            Integer.MIN_VALUE, Integer.MAX_VALUE};
        for (int path : wrongPaths) {
            C.due("P3 route(" + path + ", 1)", x.route(path, 1), -1);
            C.due("P9 arrive with path " + path, x.arrive(0, path, 0, 1, 0), -1);
        }
        C.due("P3 route(0, -1)", x.route(0, -1), -1);
        C.due("P3 route(0, 64)", x.route(0, 64), -1);
        C.due("P3 route(0, MIN)", x.route(0, Integer.MIN_VALUE), -1);
        C.due("P3 route(0, 0)", x.route(0, 0), 1);
        C.due("P3 route(1, 63)", x.route(1, 63), 2);
        C.due("P3 route(07, 63)", x.route(07, 63), 3);
        C.due("P3 route(011, 1)", x.route(011, 1), 4);
        C.due("P3 route(0111, 1)", x.route(0111, 1), 5);
        C.due("P3 route(01111, 1)", x.route(01111, 1), 6);
        C.due("P3 route(07777, 1)", x.route(07777, 1), 7);
    }

    private static void everyPath() {
        for (int path = -20; path < 5000; path++) {
            String row = path <= 0 ? "" : Integer.toOctalString(path);
            boolean good = path >= 0 && row.length() <= 4 && !row.contains("0");
            C.due("P3 route(" + path + ", 1)", new RelayDesk().route(path, 1), good ? 1 : -1);
            C.due("P9 arrive with path " + path, new RelayDesk().arrive(0, path, 0, 1, 0), good ? 0 : -1);
        }
    }

    private static void routeCountsAndReplaces() {
        RelayDesk x = Checks.desk(1);
        x.server(0, 1, 1, 1);
        x.server(1, 1, 1, 1);
        C.due("P3 other servers", x.route(0, 2), 1);
        C.due("P3 arrive", x.arrive(0, 0, 0, 1, 0), 0);
        C.due("P3 the new servers count", x.about(0, 0), 1);
        C.due("P3 no servers", x.route(0, 0), 1);
        x.arrive(0, 0, 0, 1, 0);
        C.due("P3 a route without servers is a route", x.state(1), 0);
        x.route(0, 1);
        x.advance(1);
        C.due("P3 a queued request takes its route as it is now", x.about(1, 0), 0);
    }

    private static void routeFull() {
        RelayDesk x = Checks.desk(1);
        x.server(1, 1, 8, 1);
        for (int k = 1; k < 12; k++) {
            int path = k < 8 ? k : 8 + k - 7;
            C.due("P3 route " + k, x.route(path, 1), k + 1);
        }
        C.due("P3 a thirteenth route", x.route(06, 1), 12);
        C.due("P3 a thirteenth route", x.route(021, 1), -2);
        C.due("P19 REFUSED before FULL, path", x.route(020, 1), -1);
        C.due("P19 REFUSED before FULL, servers", x.route(021, 64), -1);
        C.due("P3 one of the 12 again", x.route(012, 2), 12);
        x.arrive(0, 012, 0, 1, 0);
        C.due("P3 has its other servers", x.about(0, 0), 1);
        C.due("P3 the refused one was not made", x.unroute(021), false);
        C.due("P4 unroute", x.unroute(1), true);
        C.due("P3 room again", x.route(021, 1), 12);
    }

    private static void longestPathWins() {
        RelayDesk x = Checks.desk(1);
        for (int s = 0; s < 6; s++) {
            x.server(s, 1, 8, 1);
        }
        x.route(01234, 020);
        x.route(01, 02);
        x.route(0123, 010);
        x.route(012, 04);
        x.route(02, 040);
        int[] paths = {0, 01, 012, 0123, 01234, 01235, 0121, 0112, 013, 02, 021, 03, 0312, 02123, 01231};
        int[] servers = {0, 1, 2, 3, 4, 3, 2, 1, 1, 5, 5, 0, 0, 5, 3};
        for (int k = 0; k < paths.length; k++) {
            x.arrive(0, paths[k], 0, 1, 0);
            C.due("P3 server for path 0" + Integer.toOctalString(paths[k]), x.about(k, 0), servers[k]);
        }
    }

    private static void unroute() {
        RelayDesk x = Checks.desk(1);
        x.server(0, 1, 8, 1);
        x.server(1, 1, 8, 1);
        x.route(01, 2);
        x.route(02, 2);
        C.due("P4 unroute(3)", x.unroute(3), false);
        C.due("P4 unroute(-1)", x.unroute(-1), false);
        C.due("P4 unroute(8)", x.unroute(8), false);
        C.due("P4 unroute(MAX)", x.unroute(Integer.MAX_VALUE), false);
        C.due("P4 unroute(1)", x.unroute(1), true);
        C.due("P4 unroute(1) again", x.unroute(1), false);
        x.arrive(0, 1, 0, 1, 0);
        C.due("P4 a shorter path takes it", x.about(0, 0), 0);
        x.arrive(0, 2, 0, 1, 0);
        C.due("P4 the other route stays", x.about(1, 0), 1);
        C.due("P4 unroute(0)", x.unroute(0), true);
        x.arrive(0, 1, 0, 1, 0);
        C.due("P4 no route any more", x.state(2), 5);
        C.due("P3 count after taking away", x.route(3, 1), 2);
        x.unroute(2);
        x.unroute(3);
        x.route(0, 2);
        x.server(1, 1, 1, 10);
        x.advance(2);
        x.arrive(0, 0, 0, 1, 0);
        x.arrive(0, 0, 0, 1, 0);
        x.unroute(0);
        x.advance(20);
        C.due("P4 a queued request without a route waits", x.state(4), 0);
        C.due("P4 a running request goes on", x.state(3), 2);
        C.due("P4 it expires", x.advance(80), 1);
        C.due("P4 it expires", x.state(4), 4);
    }

    private static void unrouteLeavesTheOthers() {
        for (int gone = 1; gone <= 4; gone++) {
            RelayDesk x = Checks.desk(1);
            for (int s = 0; s < 5; s++) {
                x.server(s, 1, 8, 1);
                x.route(s, 1 << s);
            }
            x.unroute(gone);
            for (int path = 0; path < 5; path++) {
                x.arrive(0, path, 0, 1, 0);
                C.due("P4 unroute(" + gone + "), path " + path, x.about(path, 0), path == gone ? 0 : path);
            }
        }
    }

    private static void damage() {
        RelayDesk x = Checks.desk(1);
        x.server(0, 1, 8, 1);
        C.due("P5 damage(-1)", x.damage(-1, true), false);
        C.due("P5 damage(6)", x.damage(6, true), false);
        C.due("P5 damage(0)", x.damage(0, true), true);
        C.due("P5 not down before its checks", x.at(0, 1), 1);
        x.arrive(0, 0, 0, 1, 0);
        x.advance(1);
        C.due("P5 broken when it ends", x.state(0), 3);
        x.arrive(0, 0, 0, 2, 0);
        x.advance(1);
        C.due("P5 mended", x.damage(0, false), true);
        x.advance(1);
        C.due("P5 not broken when it ends", x.state(1), 2);
        C.due("P5 damage(5)", x.damage(5, true), true);
    }

    private static void setRanges() {
        RelayDesk x = new RelayDesk();
        int[] least = {0, 1, 0, 1, 1, 1, 0};
        int[] greatest = {2, 1000, 3, 1000, 100, 1000, 1000};
        for (int k = 0; k < 7; k++) {
            C.due("P6 set(" + k + ", least)", x.set(k, least[k]), true);
            C.due("P6 set(" + k + ", greatest)", x.set(k, greatest[k]), true);
            C.due("P6 set(" + k + ", less)", x.set(k, least[k] - 1), false);
            C.due("P6 set(" + k + ", more)", x.set(k, greatest[k] + 1), false);
            C.due("P6 set(" + k + ", MIN)", x.set(k, Integer.MIN_VALUE), false);
        }
        C.due("P6 set(-1, 1)", x.set(-1, 1), false);
        C.due("P6 set(7, 1)", x.set(7, 1), false);
        RelayDesk y = Checks.desk(1);
        y.server(0, 1, 1, 10);
        y.set(1, 7);
        y.set(1, 0);
        y.set(1, 1001);
        y.arrive(0, 0, 0, 1, 0);
        C.due("P6 a refused value changes nothing", y.advance(6), 0);
        C.due("P6 a refused value changes nothing", y.advance(1), 1);
    }

    private static void setFirstValues() {
        RelayDesk x = Checks.desk(1);
        x.server(0, 1, 1, 2);
        x.arrive(0, 0, 0, 51, 0);
        C.due("P6 TIMEOUT 100 at first", x.advance(99), 0);
        C.due("P6 TIMEOUT 100 at first", x.advance(1), 1);
        C.due("P6 TIMEOUT 100 at first", x.state(0), 3);
        x.arrive(0, 0, 0, 50, 0);
        C.due("P6 100 units are not too many", x.advance(100), 1);
        C.due("P6 100 units are not too many", x.state(1), 2);
        x.damage(0, true);
        for (int k = 0; k < 3; k++) {
            x.arrive(1, 0, 0, 1, 0);
            x.advance(2);
        }
        C.due("P6 REST 50 at first", x.at(0, 2), 1);
        x.advance(49);
        C.due("P6 REST 50 at first", x.at(0, 2), 1);
        x.advance(1);
        C.due("P6 REST 50 at first", x.at(0, 2), 2);

        RelayDesk y = Checks.desk(1);
        y.arrive(0, 0, 0, 1, 0);
        C.due("P6 WAIT 100 at first", y.advance(99), 0);
        C.due("P6 WAIT 100 at first", y.advance(1), 1);

        RelayDesk z = Checks.desk(7);
        for (int s = 0; s < 3; s++) {
            z.server(s, 1, 1, 1);
            z.damage(s, true);
        }
        z.arrive(0, 0, 0, 1, 0);
        z.advance(5);
        C.due("P6 RETRIES 1 at first", z.about(0, 1), 2);
        C.due("P6 CHECK 10 at first", z.at(0, 1), 1);
        z.advance(14);
        C.due("P6 CHECK 10 at first", z.at(0, 1), 1);
        z.advance(1);
        C.due("P6 CHECK 10 at first", z.at(0, 1), 0);
    }

    private static void limitNumbers() {
        RelayDesk x = new RelayDesk();
        C.due("P7 limit(0, 0, 1)", x.limit(0, 0, 1), true);
        C.due("P7 limit(5, 20, 100)", x.limit(5, 20, 100), true);
        int[][] wrong = {{-1, 1, 1}, {6, 1, 1}, {0, -1, 1}, {0, 21, 1}, {0, 1, 0}, {0, 1, 101}, {0, 1, -5},
            {Integer.MIN_VALUE, 1, 1}, {Integer.MAX_VALUE, 1, 1}};
        for (int[] w : wrong) {
            C.due("P7 limit" + java.util.Arrays.toString(w), x.limit(w[0], w[1], w[2]), false);
        }
        C.due("P7 nothing changed", x.tokens(0), 0);
        x.advance(100);
        C.due("P7 capacity 0 has no room", x.tokens(0), 0);
    }

    private static void limitFillsTheBucket() {
        RelayDesk x = new RelayDesk();
        x.limit(1, 3, 4);
        C.due("P7 fewer than before", x.tokens(1), 3);
        C.due("P7 others as before", x.tokens(2), 5);
        x.limit(1, 20, 4);
        C.due("P7 more than before", x.tokens(1), 20);
        x.limit(1, 2, 3);
        x.arrive(1, 0, 0, 1, 0);
        x.arrive(1, 0, 0, 1, 0);
        C.due("P7 used up", x.tokens(1), 0);
        x.advance(2);
        C.due("P7 refill not yet", x.tokens(1), 0);
        x.advance(1);
        C.due("P7 refill at time 3", x.tokens(1), 1);
        x.advance(3);
        C.due("P7 refill at time 6", x.tokens(1), 2);
        x.advance(6);
        C.due("P7 no more than the capacity", x.tokens(1), 2);
        x.arrive(1, 0, 0, 1, 0);
        x.advance(1);
        C.due("P7 at multiples of the refill, not so long after the call", x.tokens(1), 1);
        x.limit(1, 2, 5);
        C.due("P7 full again", x.tokens(1), 2);
        x.arrive(1, 0, 0, 1, 0);
        x.advance(1);
        C.due("P7 time 14", x.tokens(1), 1);
        x.advance(1);
        C.due("P7 time 15", x.tokens(1), 2);
    }
}
