/** The sentences of promises 10 to 19, each looked at by a method of its own. */
final class SentencesOfAnswers {
    private static final int MIN = Integer.MIN_VALUE;
    private static final int MAX = Integer.MAX_VALUE;

    private final Checks c;

    SentencesOfAnswers(Checks c) {
        this.c = c;
    }

    void all() {
        time();
        state();
        about();
        aboutRefused();
        at();
        atRefused();
        tokens();
        queued();
        total();
        totalRefused();
        took();
        tookHowMany();
        home();
        refusedBeforeFull();
        homeByTimeAndOrder();
        calls();
    }

    private void time() {
        c.says("The time.");
        RelayDesk x = new RelayDesk();
        c.due("time()", x.time(), 0);
        int[] units = {0, 1, 2, 4999, 5000};
        int sum = 0;
        for (int n : units) {
            x.advance(n);
            sum += n;
            c.due("time() after " + n + " more", x.time(), sum);
        }
        x.advance(5001);
        c.due("time() after a refused advance", x.time(), sum);
    }

    /** So many requests that are rejected. */
    private static RelayDesk deskAfter(int requests) {
        RelayDesk x = new RelayDesk();
        for (int client = 0; client < 6; client++) {
            x.limit(client, 20, 1);
        }
        for (int k = 0; k < requests; k++) {
            x.arrive(k % 6, 0, 0, 1, 0);
        }
        return x;
    }

    private void state() {
        c.says("What a request is; REFUSED if there is none with this number among the latest 32.");
        for (int came : new int[] {0, 1, 2, 31, 32, 33, 34, 63, 64, 65, 96, 97}) {
            RelayDesk x = deskAfter(came);
            for (int request = -3; request < came + 40; request++) {
                boolean kept = request >= 0 && request < came && request >= came - 32;
                c.due("state(" + request + ") of " + came, x.state(request), kept ? 5 : -1);
            }
            for (int request : new int[] {MIN, MIN + 1, MIN + came - 1, MAX, -32, came - 33}) {
                boolean kept = request >= 0 && request < came && request >= came - 32;
                c.due("state(" + request + ") of " + came, x.state(request), kept ? 5 : -1);
            }
        }
        RelayDesk y = Checks.desk(1);
        y.server(0, 1, 1, 1);
        y.arrive(0, 0, 0, 1, 0);
        y.arrive(0, 0, 0, 1, 0);
        c.due("running", y.state(0), 1);
        c.due("queued", y.state(1), 0);
        y.advance(1);
        c.due("done", y.state(0), 2);
        c.due("running", y.state(1), 1);
    }

    private void about() {
        c.says("Of a request, what 0: the server of its latest attempt (-1: none), 1: how many attempts it made, "
            + "2: when it came, 3: when it was done, failed, expired or rejected (-1 before).");
        RelayDesk x = Checks.desk(48);
        x.route(1, 0);
        x.set(5, 6);
        x.server(4, 1, 1, 1);
        x.server(5, 1, 1, 1);
        x.damage(4, true);
        aboutIs(x, x.arrive(0, 0, 0, 2, 0), 4, 1, 0, -1);
        x.advance(1);
        aboutIs(x, x.arrive(0, 1, 0, 2, 0), -1, 0, 1, -1);
        x.advance(1);
        aboutIs(x, 0, 5, 2, 0, -1);
        x.advance(1);
        aboutIs(x, 0, 5, 2, 0, -1);
        x.advance(1);
        aboutIs(x, 0, 5, 2, 0, 4);
        x.advance(3);
        c.due("expired", x.state(1), 4);
        aboutIs(x, 1, -1, 0, 1, 7);
        x.unroute(0);
        aboutIs(x, x.arrive(0, 0, 0, 2, 0), -1, 0, 7, 7);
        x.route(0, 16);
        int failed = x.arrive(0, 0, 0, 3, 0);
        x.advance(2);
        aboutIs(x, failed, 4, 1, 7, -1);
        x.advance(1);
        c.due("failed", x.state(failed), 3);
        aboutIs(x, failed, 4, 1, 7, 10);
        x.advance(10);
        aboutIs(x, failed, 4, 1, 7, 10);
        x.unroute(0);
        for (int k = 4; k < 36; k++) {
            x.arrive(k % 6, 0, 0, 1, 0);
        }
        // Request 35 may stand where the failed request 3 stood.
        aboutIs(x, 35, -1, 0, 20, 20);
    }

    private void aboutIs(RelayDesk x, int request, int... due) {
        for (int what = 0; what < 4; what++) {
            c.due("about(" + request + ", " + what + ") at " + x.time(), x.about(request, what), due[what]);
        }
    }

    private void aboutRefused() {
        c.says("REFUSED - 1 if there is none likewise, or for another what.");
        for (int came : new int[] {0, 1, 32, 33, 64}) {
            RelayDesk x = deskAfter(came);
            for (int request : new int[] {-1, 0, came - 33, came - 32, came - 1, came, came + 1, MIN, MAX}) {
                boolean kept = request >= 0 && request < came && request >= came - 32;
                for (int what = -1; what <= 4; what++) {
                    boolean good = kept && what >= 0 && what <= 3;
                    int due = good ? new int[] {-1, 0, 0, 0}[what] : -2;
                    c.due("about(" + request + ", " + what + ") of " + came, x.about(request, what), due);
                }
                c.due("about(" + request + ", MIN) of " + came, x.about(request, MIN), -2);
                c.due("about(" + request + ", MAX) of " + came, x.about(request, MAX), -2);
            }
        }
    }

    private void at() {
        c.says("Of a server, what 0: how many are running there, 1: 1 if it is up, else 0, 2: its breaker: 0 closed, "
            + "1 shut till a time behind the present one, 2 shut till one that is not; 3: failures, 4: how many "
            + "attempts succeeded there, 5: credit + 1000.");
        for (int s = 0; s < 6; s++) {
            RelayDesk x = Checks.desk(1 << s);
            x.server(s, 3, 8, 1);
            x.set(3, 4);
            x.set(4, 100);
            atIs(x, s, 0, 1, 0, 0, 0, 1000);
            for (int k = 0; k < 8; k++) {
                x.arrive(0, 0, 0, 1 + k, 0);
            }
            atIs(x, s, 8, 1, 0, 0, 0, 1000);
            x.advance(1);
            atIs(x, s, 7, 1, 0, 0, 1, 1000);
            x.damage(s, true);
            x.advance(2);
            atIs(x, s, 5, 1, 0, 2, 1, 1000);
            x.advance(1);
            atIs(x, s, 4, 1, 1, 3, 1, 1000);
            x.advance(4);
            atIs(x, s, 0, 1, 1, 7, 1, 1000);
            x.advance(3);
            atIs(x, s, 0, 1, 1, 7, 1, 1000);
            x.advance(1);
            atIs(x, s, 0, 1, 2, 7, 1, 1000);
            x.advance(1);
            atIs(x, s, 0, 1, 2, 7, 1, 1000);
            x.set(4, 1);
            x.advance(2);
            atIs(x, s, 0, 0, 2, 7, 1, 1000);
            for (int other = 0; other < 6; other++) {
                if (other != s) {
                    atIs(x, other, 0, 1, 0, 0, 0, 1000);
                }
            }
        }
        RelayDesk y = Checks.desk(63);
        for (int s = 0; s < 6; s++) {
            y.server(s, 9, 8, 1);
        }
        y.arrive(0, 0, 0, 1, 0);
        c.due("a credit below 0", y.at(0, 5), 955);
        c.due("a credit above 0", y.at(5, 5), 1009);
    }

    private void atIs(RelayDesk x, int s, int... due) {
        for (int what = 0; what < 6; what++) {
            c.due("at(" + s + ", " + what + ") at " + x.time(), x.at(s, what), due[what]);
        }
    }

    private void atRefused() {
        c.says("REFUSED if there is none, or for another what.");
        RelayDesk x = new RelayDesk();
        int[] first = {0, 1, 0, 0, 0, 1000};
        for (int s : new int[] {-1, 0, 5, 6, MIN, MAX}) {
            for (int what : new int[] {-1, 0, 1, 2, 3, 4, 5, 6, 7, MIN, MAX}) {
                boolean good = s >= 0 && s <= 5 && what >= 0 && what <= 5;
                c.due("at(" + s + ", " + what + ")", x.at(s, what), good ? first[what] : -1);
            }
        }
    }

    private void tokens() {
        c.says("How many tokens a client has; REFUSED if there is none.");
        for (int client : new int[] {-1, 0, 1, 2, 3, 4, 5, 6, 7, MIN, MAX}) {
            boolean there = client >= 0 && client <= 5;
            RelayDesk x = new RelayDesk();
            c.due("tokens(" + client + ")", x.tokens(client), there ? 5 : -1);
            x.limit(client, 20, 1);
            c.due("tokens(" + client + "), capacity 20", x.tokens(client), there ? 20 : -1);
            x.limit(client, 0, 1);
            c.due("tokens(" + client + "), capacity 0", x.tokens(client), there ? 0 : -1);
        }
    }

    private void queued() {
        c.says("The k-th that is queued (0 the first); k = -1: how many; REFUSED if there is none.");
        for (int length = 0; length <= 8; length++) {
            RelayDesk x = deskAfter(30);
            x.route(0, 1);
            for (int k = 0; k < length; k++) {
                x.arrive(0, 0, 0, 1, 2);
            }
            c.due("queued(-1)", x.queued(-1), length);
            for (int k = 0; k <= 9; k++) {
                c.due("queued(" + k + ") of " + length, x.queued(k), k < length ? 30 + k : -1);
            }
            for (int k : new int[] {-2, -3, 32, MIN, MAX}) {
                c.due("queued(" + k + ") of " + length, x.queued(k), -1);
            }
            x.server(0, 1, 8, 1);
            x.advance(1);
            c.due("queued(-1) when all run", x.queued(-1), 0);
            c.due("queued(0) when all run", x.queued(0), -1);
        }
    }

    private void total() {
        c.says("Of all requests so far how many are what: 2 done, 3 failed, 4 expired, 5 rejected; 0: how many came; "
            + "1: the sum, over those done, of how long they took; 6: how often arrive was LIMITED.");
        RelayDesk x = Checks.desk(1);
        x.server(0, 1, 1, 1);
        x.set(5, 5);
        totalIs(x, 0, 0, 0, 0, 0, 0, 0);
        x.arrive(0, 0, 0, 3, 0);
        x.arrive(0, 0, 0, 3, 0);
        totalIs(x, 2, 0, 0, 0, 0, 0, 0);
        x.advance(3);
        totalIs(x, 2, 3, 1, 0, 0, 0, 0);
        x.advance(3);
        totalIs(x, 2, 9, 2, 0, 0, 0, 0);
        x.damage(0, true);
        x.arrive(0, 0, 0, 9, 0);
        x.arrive(0, 0, 0, 9, 0);
        x.advance(5);
        totalIs(x, 4, 9, 2, 0, 1, 0, 0);
        x.advance(4);
        totalIs(x, 4, 9, 2, 1, 1, 0, 0);
        x.unroute(0);
        x.arrive(0, 0, 0, 9, 0);
        totalIs(x, 5, 9, 2, 1, 1, 1, 0);
        x.limit(3, 0, 1);
        x.arrive(3, 0, 0, 9, 0);
        x.arrive(3, 0, 0, 9, 0);
        totalIs(x, 5, 9, 2, 1, 1, 1, 2);
        RelayDesk y = deskAfter(100);
        c.due("more than the latest 32, total(0)", y.total(0), 100);
        c.due("more than the latest 32, total(5)", y.total(5), 100);
    }

    private void totalIs(RelayDesk x, long... due) {
        for (int what = 0; what < 7; what++) {
            c.due("total(" + what + ") at " + x.time(), x.total(what), due[what]);
        }
    }

    private void totalRefused() {
        c.says("REFUSED for another what.");
        RelayDesk x = deskAfter(3);
        for (int what : new int[] {-1, -2, 7, 8, MIN, MAX}) {
            c.due("total(" + what + ")", x.total(what), -1);
        }
    }

    /** So many requests are done, one after another; the k-th takes 1 + k * 7 % 61 units. */
    private static RelayDesk deskAfterDone(int requests) {
        RelayDesk x = Checks.desk(1);
        x.server(0, 1, 8, 1);
        for (int k = 0; k < requests; k++) {
            x.arrive(k % 6, 0, 0, 1 + k * 7 % 61, 0);
            x.advance(1 + k * 7 % 61);
        }
        return x;
    }

    private void took() {
        c.says("How long the latest requests that were done took, 64 of them at most: the k-th least (0 the first) of "
            + "these;");
        for (int done : new int[] {0, 1, 2, 5, 63, 64, 65, 66, 127, 128, 129, 130}) {
            RelayDesk x = deskAfterDone(done);
            java.util.List<Integer> times = new java.util.ArrayList<>();
            for (int k = Math.max(0, done - 64); k < done; k++) {
                times.add(1 + k * 7 % 61);
            }
            times.sort(null);
            for (int k = 0; k < times.size(); k++) {
                c.due("took(" + k + ") of " + done, x.took(k), times.get(k));
            }
        }
        RelayDesk y = Checks.desk(1);
        y.server(0, 1, 1, 1);
        y.arrive(0, 0, 0, 5, 0);
        y.arrive(0, 0, 0, 5, 0);
        y.advance(10);
        c.due("equal work, one waited: took(0)", y.took(0), 5);
        c.due("equal work, one waited: took(1)", y.took(1), 10);
    }

    private void tookHowMany() {
        c.says("k = -1: how many these are; REFUSED if there is none.");
        for (int done : new int[] {0, 1, 63, 64, 65, 130}) {
            RelayDesk x = deskAfterDone(done);
            int many = Math.min(64, done);
            c.due("took(-1) of " + done, x.took(-1), many);
            c.due("the last one of " + done, x.took(many - 1) >= 0, true);
            for (int k : new int[] {many, many + 1, 64, 65, 128, -2, -64, MIN, MAX}) {
                c.due("took(" + k + ") of " + done, x.took(k), -1);
            }
        }
        RelayDesk y = deskAfter(5);
        c.due("rejected ones are none of these", y.took(-1), 0);
        RelayDesk z = Checks.desk(1);
        z.server(0, 1, 1, 1);
        z.arrive(0, 0, 0, 5, 0);
        z.advance(4);
        c.due("a running one is none of these", z.took(0), -1);
        z.damage(0, true);
        z.advance(1);
        c.due("a failed one is none of these", z.took(0), -1);
    }

    private void home() {
        c.says("A client's home; REFUSED if it has none, or there is no such client.");
        for (int client : new int[] {-1, 0, 1, 2, 3, 4, 5, 6, 7, MIN, MAX}) {
            boolean there = client >= 0 && client <= 5;
            RelayDesk x = Checks.desk(32);
            x.server(5, 1, 8, 1);
            c.due("home(" + client + "), none yet", x.home(client), -1);
            x.arrive(client, 0, 0, 1, 0);
            c.due("home(" + client + "), not done yet", x.home(client), -1);
            x.advance(1);
            c.due("home(" + client + ")", x.home(client), there ? 5 : -1);
            c.due("another client", x.home(there ? (client + 1) % 6 : 0), -1);
            x.advance(5000);
            c.due("home(" + client + ") long after", x.home(client), there ? 5 : -1);
        }
        RelayDesk y = Checks.desk(1);
        y.server(0, 1, 8, 1);
        y.arrive(0, 0, 0, 1, 0);
        y.advance(1);
        c.due("server 0 is a home", y.home(0), 0);
        y.set(6, 1);
        y.advance(100);
        c.due("whatever STAY is", y.home(0), 0);
        y.route(0, 0);
        y.server(0, 0, 1, 1);
        c.due("whatever is ready", y.home(0), 0);
    }

    private void refusedBeforeFull() {
        c.says("route: REFUSED is tested before FULL.");
        RelayDesk x = new RelayDesk();
        for (int k = 0; k < 12; k++) {
            x.route(k < 8 ? k : 011 + k - 8, 1);
        }
        c.due("a thirteenth", x.route(015, 1), -2);
        for (int path : new int[] {-1, 8, 020, 0101, 4096, MIN, MAX}) {
            c.due("route(" + path + ", 1)", x.route(path, 1), -1);
        }
        for (int servers : new int[] {-1, 64, MIN, MAX}) {
            c.due("route(015, " + servers + ")", x.route(015, servers), -1);
            c.due("route(014, " + servers + ")", x.route(014, servers), -1);
        }
    }

    private void homeByTimeAndOrder() {
        c.says("A client's HOME is the server at which one of its requests was done last: by the time at which they "
            + "were done, in one unit by the order of the requests (not by when they came).");
        for (int before = 0; before <= 40; before++) {
            RelayDesk x = deskAfter(before);
            x.route(1, 1);
            x.route(2, 2);
            x.server(0, 1, 8, 1);
            x.server(1, 1, 8, 1);
            x.arrive(0, 1, 0, 9, 0);
            x.arrive(0, 2, 0, 3, 0);
            x.advance(3);
            c.due("the second is done", x.home(0), 1);
            x.advance(6);
            c.due("then the first, after " + before, x.home(0), 0);
            x.arrive(1, 1, 0, 4, 0);
            x.arrive(1, 2, 0, 4, 0);
            x.arrive(2, 2, 0, 4, 0);
            x.arrive(2, 1, 0, 4, 0);
            x.advance(4);
            c.due("in one unit, server 1 last, after " + before, x.home(1), 1);
            c.due("in one unit, server 0 last, after " + before, x.home(2), 0);
        }
        RelayDesk y = Checks.desk(0);
        y.set(6, 3);
        y.route(1, 1);
        y.route(2, 2);
        y.server(0, 1, 8, 1);
        y.server(1, 9, 8, 1);
        y.arrive(0, 1, 0, 9, 0);
        y.arrive(0, 2, 0, 3, 0);
        y.advance(12);
        y.route(3, 3);
        y.arrive(0, 3, 0, 1, 0);
        c.due("STAY counts from that time", y.about(2, 0), 0);
    }

    private void calls() {
        c.says("An object is used for at most 512 calls after it has been made; what later calls answer is free.");
        RelayDesk x = new RelayDesk();
        for (int k = 0; k < 255; k++) {
            x.limit(0, 1, 1);
            c.due("request " + k, x.arrive(0, 0, 0, 1, 0), k);
        }
        c.due("call 511", x.state(254), 5);
        c.due("call 512", x.total(5), 255);
        RelayDesk y = new RelayDesk();
        for (int k = 0; k < 511; k++) {
            y.advance(5000);
        }
        c.due("call 512, the latest time that can be reached", y.time(), 511 * 5000);
    }
}
