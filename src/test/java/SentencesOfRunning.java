/** The sentences of the document's part "Terms" about what happens, each looked at by a method of its own. */
final class SentencesOfRunning {
    private final Checks c;

    SentencesOfRunning(Checks c) {
        this.c = c;
    }

    void all() {
        routeHasIt();
        weightIsNotZero();
        isUp();
        fewerThanSlots();
        noAttemptThereYet();
        breakerLetsIt();
        home();
        choosingTheHome();
        choosingByPolicy();
        turns();
        least();
        points();
        aroundTheRing();
        attemptRuns();
        attemptSucceeds();
        success();
        failures();
        breakerShuts();
        retry();
        timeGrows();
        attemptsEnd();
        checks();
        firstCheck();
        expiry();
        queueIsGoneThrough();
    }

    private void routeHasIt() {
        c.says("A server is READY for a request if its route has it,");
        for (int servers = 0; servers < 64; servers++) {
            RelayDesk x = Checks.desk(servers);
            for (int s = 0; s < 6; s++) {
                x.server(s, 1, 1, 1);
            }
            for (int k = 0; k < 7; k++) {
                x.arrive(0, 0, 0, 5, 0);
            }
            for (int s = 0; s < 6; s++) {
                c.due("server " + s + " of route(0, " + servers + ")", x.at(s, 0), servers >> s & 1);
            }
        }
        RelayDesk y = Checks.desk(1);
        y.server(0, 1, 1, 1);
        y.arrive(0, 0, 0, 1, 0);
        y.arrive(0, 0, 0, 1, 0);
        y.unroute(0);
        y.advance(1);
        c.due("a queued one whose route was taken away", y.state(1), 0);
    }

    private void weightIsNotZero() {
        c.says("its weight is not 0,");
        for (int policy = 0; policy <= 2; policy++) {
            for (int weight = 0; weight <= 1; weight++) {
                RelayDesk x = Checks.desk(1);
                x.set(0, policy);
                x.server(0, weight, 1, 1);
                x.arrive(0, 0, 0, 1, 0);
                c.due("policy " + policy + ", weight " + weight, x.state(0), weight);
                x.server(0, 1, 1, 1);
                x.advance(1);
                c.due("then weight 1", x.about(0, 1), 1);
            }
        }
    }

    private void isUp() {
        c.says("it is up,");
        RelayDesk x = Checks.desk(1);
        x.server(0, 1, 8, 1);
        x.damage(0, true);
        x.advance(19);
        x.damage(0, false);
        x.arrive(0, 0, 0, 100, 0);
        x.damage(0, true);
        c.due("up still", x.state(0), 1);
        x.advance(1);
        x.damage(0, false);
        x.arrive(0, 0, 0, 1, 0);
        c.due("not up", x.state(1), 0);
        x.advance(19);
        c.due("not up yet", x.state(1), 0);
        x.advance(1);
        c.due("up again", x.state(1), 1);
    }

    private void fewerThanSlots() {
        c.says("fewer requests are running there than it has slots,");
        for (int slots = 1; slots <= 8; slots++) {
            RelayDesk x = Checks.desk(1);
            x.server(0, 1, slots, 1);
            for (int k = 0; k <= slots; k++) {
                x.arrive(0, 0, 0, 5, 0);
                c.due("request " + k + " of " + slots + " slots", x.state(k), k < slots ? 1 : 0);
            }
            x.advance(5);
            c.due("when they have ended", x.state(slots), 1);
        }
        RelayDesk y = Checks.desk(1);
        y.server(0, 1, 8, 1);
        for (int k = 0; k < 8; k++) {
            y.arrive(0, 0, 0, 1 + k, 0);
        }
        y.server(0, 1, 1, 1);
        y.arrive(0, 0, 0, 1, 0);
        y.advance(7);
        c.due("more than slots, then as many", y.state(8), 0);
        y.advance(1);
        c.due("fewer than slots", y.state(8), 1);
    }

    private void noAttemptThereYet() {
        c.says("the request has made no attempt there yet,");
        for (int servers = 1; servers <= 6; servers++) {
            RelayDesk x = Checks.desk((1 << servers) - 1);
            x.set(2, 3);
            for (int s = 0; s < servers; s++) {
                x.server(s, 1, 1, 1);
                x.damage(s, true);
            }
            x.arrive(0, 0, 0, 1, 0);
            x.advance(10);
            c.due("attempts at " + servers + " servers", x.about(0, 1), Math.min(4, servers));
            c.due("failed", x.state(0), 3);
            c.due("when", x.about(0, 3), Math.min(4, servers));
            for (int s = 0; s < servers; s++) {
                c.due("attempts at server " + s, x.at(s, 3), s < 4 ? 1 : 0);
            }
        }
        RelayDesk y = Checks.desk(1);
        y.server(0, 1, 1, 1);
        y.damage(0, true);
        y.arrive(0, 0, 0, 1, 0);
        y.advance(1);
        y.arrive(0, 0, 0, 1, 0);
        c.due("another request may", y.state(1), 1);
    }

    /** Server 0 with 8 slots, its breaker shut at time 1 till time 5. */
    private static RelayDesk shutDesk() {
        RelayDesk x = Checks.desk(1);
        x.server(0, 1, 8, 1);
        x.set(3, 4);
        x.set(4, 100);
        x.damage(0, true);
        for (int k = 0; k < 3; k++) {
            x.arrive(0, 0, 0, 1, 0);
        }
        x.advance(1);
        return x;
    }

    private void breakerLetsIt() {
        c.says("and its breaker is closed, or shut till a time that is not behind the present one, while none is "
            + "running there.");
        for (int later = 0; later <= 6; later++) {
            RelayDesk x = shutDesk();
            x.advance(later);
            x.arrive(0, 0, 0, 9, 0);
            x.arrive(0, 0, 0, 9, 0);
            c.due("shut till 5, at " + x.time(), x.state(3), later < 4 ? 0 : 1);
            c.due("another while one is running", x.state(4), 0);
        }
        RelayDesk y = shutDesk();
        y.damage(0, false);
        y.advance(4);
        y.arrive(0, 0, 0, 1, 0);
        y.advance(1);
        y.arrive(0, 0, 0, 9, 0);
        y.arrive(0, 0, 0, 9, 0);
        c.due("closed: while others are running", y.at(0, 0), 2);
        RelayDesk z = Checks.desk(1);
        z.server(0, 1, 8, 1);
        z.set(3, 1);
        z.damage(0, true);
        for (int k = 0; k < 4; k++) {
            z.arrive(0, 0, 0, k < 3 ? 1 : 9, 0);
        }
        z.advance(2);
        z.arrive(0, 0, 0, 9, 0);
        c.due("one from before it was shut is running", z.state(4), 0);
    }

    private void home() {
        c.says("A client's HOME is the server at which the latest of its requests that were done was done.");
        RelayDesk x = Checks.desk(1);
        x.server(0, 1, 8, 1);
        x.server(1, 1, 8, 1);
        x.route(1, 2);
        c.due("none yet", x.home(0), -1);
        x.arrive(0, 0, 0, 2, 0);
        x.arrive(1, 1, 0, 1, 0);
        c.due("running", x.home(0), -1);
        x.advance(2);
        c.due("done", x.home(0), 0);
        c.due("another client", x.home(1), 1);
        x.damage(1, true);
        x.arrive(0, 1, 0, 2, 0);
        x.advance(2);
        c.due("a failed one leaves it", x.home(0), 0);
        x.unroute(0);
        x.arrive(0, 0, 0, 2, 0);
        c.due("a rejected one leaves it", x.home(0), 0);
        RelayDesk y = Checks.desk(3);
        y.server(0, 1, 8, 1);
        y.server(1, 1, 8, 1);
        y.damage(0, true);
        y.arrive(0, 0, 0, 2, 0);
        y.advance(4);
        c.due("the server at which it was done, not that of its first attempt", y.home(0), 1);
    }

    private void choosingTheHome() {
        c.says("CHOOSING one of the servers that are ready: the home, if it is one of them, STAY is not 0, and that "
            + "was at most STAY units ago.");
        for (int stay : new int[] {0, 1, 2, 7, 8, 9}) {
            for (int later : new int[] {0, 1, 2, 3, 7, 8}) {
                RelayDesk x = Checks.desk(1);
                x.set(6, stay);
                x.server(0, 1, 1, 1);
                x.server(1, 9, 8, 1);
                x.arrive(0, 0, 0, 1, 0);
                x.advance(1);
                x.route(0, 3);
                x.advance(later);
                x.arrive(0, 0, 0, 9, 0);
                boolean atHome = stay != 0 && later <= stay;
                c.due("STAY " + stay + ", " + later + " units later", x.about(1, 0), atHome ? 0 : 1);
                c.due("credit at home", x.at(0, 5), atHome ? 1000 : 1001);
                x.arrive(0, 0, 0, 9, 0);
                c.due("the home has no slot left or the policy chooses", x.about(2, 0), 1);
            }
        }
        RelayDesk y = Checks.desk(3);
        y.set(6, 5);
        y.server(0, 1, 8, 1);
        y.server(1, 9, 8, 1);
        y.arrive(0, 0, 0, 1, 0);
        c.due("no home yet", y.about(0, 0), 1);
        homeAtRetry();
        homeFromTheQueue();
        RelayDesk z = Checks.desk(1);
        z.set(6, 5);
        z.server(0, 1, 8, 1);
        z.server(1, 9, 8, 1);
        z.arrive(3, 0, 0, 1, 0);
        z.advance(1);
        z.route(0, 3);
        z.damage(0, true);
        z.arrive(3, 0, 0, 1, 0);
        c.due("the home, though it is broken", z.about(1, 0), 0);
        z.arrive(2, 0, 0, 1, 0);
        c.due("not another client's home", z.about(2, 0), 1);
    }

    private void homeAtRetry() {
        RelayDesk x = Checks.desk(4);
        x.set(6, 9);
        x.server(0, 1, 8, 1);
        x.server(1, 9, 8, 1);
        x.server(2, 1, 8, 1);
        x.damage(0, true);
        x.arrive(0, 0, 0, 1, 0);
        x.advance(1);
        x.route(0, 1);
        x.arrive(0, 0, 0, 1, 0);
        x.route(0, 7);
        x.advance(1);
        c.due("an attempt that is made again is made at home", x.about(1, 0), 2);
        c.due("its second", x.about(1, 1), 2);
    }

    private void homeFromTheQueue() {
        RelayDesk x = Checks.desk(4);
        x.set(6, 9);
        x.server(2, 1, 8, 1);
        x.arrive(0, 0, 0, 1, 0);
        x.advance(1);
        x.route(0, 2);
        x.arrive(0, 0, 0, 1, 0);
        x.advance(1);
        x.server(1, 9, 8, 1);
        x.route(0, 6);
        x.advance(1);
        c.due("a queued one goes home", x.about(1, 0), 2);
    }

    private void choosingByPolicy() {
        c.says("Else by the policy.");
        for (int policy = 0; policy <= 2; policy++) {
            for (int stay = 0; stay <= 1; stay++) {
                RelayDesk x = Checks.desk(1);
                x.set(0, policy);
                x.set(6, stay);
                x.server(0, 1, 8, 1);
                x.server(1, 3, 8, 1);
                x.arrive(0, 0, 0, 1, 0);
                x.advance(1);
                x.arrive(1, 0, 0, 9, 0);
                x.route(0, 3);
                x.arrive(0, 0, 100, 9, 0);
                c.due("each policy would choose server 1; policy " + policy + ", STAY " + stay, x.about(2, 0), 1 - stay);
            }
        }
    }

    private void turns() {
        c.says("0, TURNS: the credit of each of them grows by its weight; that with the greatest credit (of several "
            + "the least number) is chosen, and its credit becomes less by the sum of their weights.");
        RelayDesk x = Checks.desk(63);
        for (int s = 0; s < 6; s++) {
            x.server(s, 9, 1, 1);
        }
        for (int k = 0; k < 6; k++) {
            x.arrive(0, 0, 0, 9, 0);
            c.due("of several the least number", x.about(k, 0), k);
            int left = 6 - k;
            for (int s = 0; s < 6; s++) {
                int credit = 0;
                for (int turn = 0; turn <= k; turn++) {
                    credit += s >= turn ? 9 : 0;
                    credit -= s == turn ? 9 * (6 - turn) : 0;
                }
                c.due("credit of " + s + ", " + left + " were ready", x.at(s, 5), 1000 + credit);
            }
        }
        RelayDesk y = Checks.desk(6);
        y.server(0, 9, 8, 1);
        y.server(1, 1, 8, 1);
        y.server(2, 2, 8, 1);
        int[] servers = {2, 1, 2, 2, 1, 2};
        int[] credits = {1001, 999, 1000, 1001, 999, 1000};
        for (int k = 0; k < 6; k++) {
            y.arrive(0, 0, 0, 9, 0);
            c.due("turn " + k, y.about(k, 0), servers[k]);
            c.due("credit of 1", y.at(1, 5), credits[k]);
            c.due("credit of 2", y.at(2, 5), 2000 - credits[k]);
            c.due("not of the route: no credit", y.at(0, 5), 1000);
        }
        RelayDesk down = Checks.desk(7);
        for (int s = 0; s < 3; s++) {
            down.server(s, 3, 8, 1);
        }
        down.damage(1, true);
        down.advance(20);
        down.arrive(0, 0, 0, 9, 0);
        int[] left = {997, 1000, 1003};
        for (int s = 0; s < 3; s++) {
            c.due("server 1 is not up, credit of " + s, down.at(s, 5), left[s]);
        }
        RelayDesk z = Checks.desk(1);
        z.server(0, 9, 1, 1);
        z.arrive(0, 0, 0, 9, 0);
        c.due("alone: grows by 9, becomes less by 9", z.at(0, 5), 1000);
        z.arrive(0, 0, 0, 9, 0);
        c.due("none is ready: nothing grows", z.at(0, 5), 1000);
    }

    private void least() {
        c.says("1, LEAST: that with the least quotient of requests running there and weight (of several the least "
            + "number).");
        RelayDesk x = Checks.desk(63);
        x.set(0, 1);
        for (int s = 0; s < 6; s++) {
            x.server(s, 1 + s, 8, 1);
        }
        for (int k = 0; k < 6; k++) {
            x.arrive(0, 0, 0, 9, 0);
            c.due("none running: the least number", x.about(k, 0), k);
        }
        x.arrive(0, 0, 0, 9, 0);
        c.due("1 / 6 is the least", x.about(6, 0), 5);
        x.arrive(0, 0, 0, 9, 0);
        c.due("1 / 5 is the least", x.about(7, 0), 4);
        x.arrive(0, 0, 0, 9, 0);
        c.due("1 / 4 is the least", x.about(8, 0), 3);
        x.arrive(0, 0, 0, 9, 0);
        c.due("1 / 3 and 2 / 6: the least number", x.about(9, 0), 2);
        x.arrive(0, 0, 0, 9, 0);
        c.due("2 / 6 before 2 / 5", x.about(10, 0), 5);
        c.due("no credits", x.at(0, 5), 1000);
        RelayDesk y = Checks.desk(3);
        y.set(0, 1);
        y.server(0, 8, 8, 1);
        y.server(1, 9, 8, 1);
        int[] servers = {0, 1, 1, 0, 1, 0, 1, 0};
        for (int k = 0; k < 8; k++) {
            y.arrive(0, 0, 0, 9, 0);
            c.due("eighths and ninths, " + k, y.about(k, 0), servers[k]);
        }
    }

    private void points() {
        c.says("2, RING: server s has POINTS at (s * 37 + j * 101 + 17) * 59 modulo 256, for each j from 0 to its "
            + "weight less 1.");
        for (int s = 0; s < 6; s++) {
            for (int weight = 1; weight <= 9; weight++) {
                onlyItsPoints(s, weight);
            }
        }
    }

    /** Server s has the weight given, the next one weight 1, the others none. */
    private void onlyItsPoints(int s, int weight) {
        int[] weights = new int[6];
        weights[s] = weight;
        weights[(s + 1) % 6] = 1;
        RelayDesk x = Checks.desk(63);
        x.set(0, 2);
        x.server(s, weight, 8, 1);
        x.server((s + 1) % 6, 1, 8, 1);
        for (int j = 0; j < 9; j++) {
            int key = (s * 37 + j * 101 + 17) * 59 % 256;
            int request = x.arrive(0, 0, key, 1, 0);
            c.due("server " + s + ", weight " + weight + ", key " + key, x.about(request, 0),
                firstFrom(key, weights));
            x.advance(1);
        }
    }

    /** Goes up from the key, step by step, till a place where one of the servers has a point. */
    private static int firstFrom(int key, int... weights) {
        for (int step = 0; step < 256; step++) {
            int place = key + step < 256 ? key + step : key + step - 256;
            for (int s = 0; s < 6; s++) {
                for (int j = 0; j < weights[s]; j++) {
                    if ((s * 37 + j * 101 + 17) * 59 % 256 == place) {
                        return s;
                    }
                }
            }
        }
        return -1;
    }

    private void aroundTheRing() {
        c.says("Going up from the key (255 is followed by 0), the first point that a ready server has (of several "
            + "there the least server).");
        // Points: 0 at 235, 1 at 114, 4 at 7.
        RelayDesk x = Checks.desk(19);
        x.set(0, 2);
        x.server(0, 1, 8, 1);
        x.server(1, 1, 8, 1);
        x.server(4, 1, 8, 1);
        int[] keys = {7, 8, 113, 114, 115, 234, 235, 236, 255, 0, 6};
        int[] servers = {4, 1, 1, 1, 0, 0, 0, 4, 4, 4, 4};
        for (int k = 0; k < keys.length; k++) {
            x.arrive(0, 0, keys[k], 1, 0);
            c.due("key " + keys[k], x.about(k, 0), servers[k]);
            x.advance(1);
        }
        RelayDesk y = Checks.desk(1);
        y.set(0, 2);
        y.server(0, 1, 8, 1);
        y.arrive(0, 0, 236, 1, 0);
        c.due("the only point is behind the key: all around", y.about(0, 0), 0);
        RelayDesk z = Checks.desk(2);
        z.set(0, 2);
        z.server(1, 3, 8, 1);
        z.server(0, 1, 8, 1);
        z.route(0, 3);
        z.arrive(0, 0, 0, 1, 0);
        z.arrive(0, 0, 255, 1, 0);
        c.due("a point at 0, key 0", z.about(0, 0), 1);
        c.due("a point at 0, key 255", z.about(1, 0), 1);
        // Servers 0 of weight 5 and 4 of weight 1 both have a point at 7.
        RelayDesk shared = Checks.desk(17);
        shared.set(0, 2);
        shared.server(0, 5, 1, 1);
        shared.server(4, 1, 8, 1);
        shared.arrive(0, 0, 7, 9, 0);
        shared.arrive(0, 0, 7, 9, 0);
        c.due("of several there the least server", shared.about(0, 0), 0);
        c.due("the least one is not ready", shared.about(1, 0), 4);
        everyKey(9, 9, 9, 9, 9, 9);
        everyKey(1, 2, 3, 4, 5, 6);
        everyKey(6, 5, 4, 3, 2, 1);
        everyKey(0, 9, 0, 0, 1, 2);
    }

    private void everyKey(int... weights) {
        RelayDesk x = null;
        for (int key = 0; key < 256; key++) {
            if (key % 64 == 0) {
                x = Checks.desk(63);
                x.set(0, 2);
                for (int s = 0; s < 6; s++) {
                    x.server(s, weights[s], 8, 1);
                }
            }
            x.arrive(key % 6, 0, key, 1, 0);
            c.due("key " + key, x.about(key % 64, 0), firstFrom(key, weights));
            x.advance(1);
        }
    }

    private void attemptRuns() {
        c.says("AN ATTEMPT at a server runs for work * pace units, but at most TIMEOUT.");
        int[][] cases = {{1, 1, 1, 1}, {1, 1, 1000, 1}, {2, 1, 1, 1}, {1, 2, 1, 1}, {7, 3, 20, 20}, {7, 3, 21, 21},
            {7, 3, 22, 21}, {100, 10, 999, 999}, {100, 10, 1000, 1000}, {100, 1, 1000, 100}, {1, 10, 1000, 10}};
        for (int[] k : cases) {
            RelayDesk x = Checks.desk(1);
            x.set(1, k[2]);
            x.server(0, 1, 8, k[1]);
            x.arrive(0, 0, 0, k[0], 0);
            String what = k[0] + " * " + k[1] + ", TIMEOUT " + k[2];
            x.advance(k[3] - 1);
            c.due(what + ", a unit before", x.state(0), 1);
            c.due(what + ", a unit before", x.at(0, 0), 1);
            c.due(what, x.advance(1), 1);
            c.due(what, x.about(0, 3), k[3]);
            c.due(what, x.at(0, 0), 0);
        }
    }

    private void attemptSucceeds() {
        c.says("It succeeds if these were not more than TIMEOUT, and the server is not broken when it ends.");
        for (int timeout = 19; timeout <= 22; timeout++) {
            RelayDesk x = Checks.desk(1);
            x.set(1, timeout);
            x.server(0, 1, 8, 3);
            x.arrive(0, 0, 0, 7, 0);
            x.advance(21);
            c.due("21 units, TIMEOUT " + timeout, x.state(0), timeout < 21 ? 3 : 2);
        }
        RelayDesk y = Checks.desk(1);
        y.server(0, 1, 8, 1);
        y.damage(0, true);
        y.arrive(0, 0, 0, 5, 0);
        y.advance(4);
        y.damage(0, false);
        y.advance(1);
        c.due("broken till just before the end", y.state(0), 2);
        y.arrive(0, 0, 0, 5, 0);
        y.advance(4);
        y.damage(0, true);
        y.advance(1);
        c.due("broken just before the end", y.state(1), 3);
        RelayDesk z = Checks.desk(1);
        z.server(0, 1, 8, 1);
        z.set(4, 1);
        z.arrive(0, 0, 0, 5, 0);
        z.damage(0, true);
        z.advance(4);
        z.damage(0, false);
        c.due("not up", z.at(0, 1), 0);
        z.advance(1);
        c.due("not up when it ends, but not broken either", z.state(0), 2);
        c.due("not up yet", z.at(0, 1), 0);
    }

    private void success() {
        c.says("Success: the request is done, the breaker closed, failures 0.");
        RelayDesk x = shutDesk();
        x.damage(0, false);
        x.advance(4);
        x.arrive(0, 0, 0, 3, 0);
        c.due("failures before", x.at(0, 3), 3);
        c.due("breaker before", x.at(0, 2), 2);
        c.due("succeeded before", x.at(0, 4), 0);
        x.advance(3);
        c.due("done", x.state(3), 2);
        c.due("breaker closed", x.at(0, 2), 0);
        c.due("failures 0", x.at(0, 3), 0);
        c.due("succeeded", x.at(0, 4), 1);
        x.damage(0, true);
        for (int k = 0; k < 3; k++) {
            c.due("it needs three failures anew", x.at(0, 2), 0);
            x.arrive(0, 0, 0, 1, 0);
            x.advance(1);
        }
        c.due("three failures anew", x.at(0, 2), 1);
    }

    private void failures() {
        c.says("Else: failures grow by 1;");
        RelayDesk x = Checks.desk(1);
        x.server(0, 1, 8, 1);
        x.damage(0, true);
        for (int k = 0; k < 8; k++) {
            x.arrive(0, 0, 0, 1 + k, 0);
        }
        for (int k = 1; k <= 8; k++) {
            x.advance(1);
            c.due("failures", x.at(0, 3), k);
        }
        RelayDesk y = Checks.desk(1);
        y.set(1, 5);
        y.server(0, 1, 8, 1);
        y.arrive(0, 0, 0, 6, 0);
        y.advance(5);
        c.due("too long", y.at(0, 3), 1);
    }

    private void breakerShuts() {
        c.says("if the breaker is shut or failures are 3 or more it is shut till REST units later;");
        RelayDesk x = Checks.desk(1);
        x.server(0, 1, 8, 1);
        x.set(3, 5);
        x.damage(0, true);
        for (int k = 1; k <= 4; k++) {
            x.arrive(0, 0, 0, k, 0);
        }
        int[] breakers = {0, 0, 1, 1};
        for (int k = 0; k < 4; k++) {
            x.advance(1);
            c.due("after failure " + (k + 1), x.at(0, 2), breakers[k]);
        }
        x.advance(4);
        c.due("the fourth moved it: till 9, at 8", x.at(0, 2), 1);
        x.advance(1);
        c.due("till 9, at 9", x.at(0, 2), 2);
        x.arrive(0, 0, 0, 1, 0);
        x.advance(1);
        c.due("failed when shut till a past time: shut again", x.at(0, 2), 1);
        x.advance(4);
        c.due("till 15, at 14", x.at(0, 2), 1);
        x.advance(1);
        c.due("till 15, at 15", x.at(0, 2), 2);
        RelayDesk y = shutDesk();
        y.advance(4);
        y.set(3, 1000);
        y.arrive(0, 0, 0, 1, 0);
        y.advance(1);
        c.due("a longer REST: till 1006", y.at(0, 2), 1);
        y.advance(999);
        c.due("a longer REST: till 1006, at 1005", y.at(0, 2), 1);
        y.advance(1);
        c.due("a longer REST: till 1006, at 1006", y.at(0, 2), 2);
        RelayDesk z = Checks.desk(1);
        z.server(0, 1, 8, 1);
        z.set(3, 1000);
        z.damage(0, true);
        for (int k = 0; k < 4; k++) {
            z.arrive(0, 0, 0, k < 3 ? 1 : 5, 0);
        }
        z.advance(4);
        z.set(3, 2);
        z.advance(1);
        c.due("a shorter REST: till 7, at 5", z.at(0, 2), 1);
        z.advance(2);
        c.due("a shorter REST: till 7, at 7", z.at(0, 2), 2);
    }

    private void retry() {
        c.says("and if the request has made at most RETRIES attempts, and a server is ready for it, it makes one "
            + "there at once; else it has failed.");
        for (int retries = 0; retries <= 3; retries++) {
            RelayDesk x = Checks.desk(63);
            x.set(2, retries);
            for (int s = 0; s < 6; s++) {
                x.server(s, 1, 8, 1);
                x.damage(s, true);
            }
            x.arrive(0, 0, 0, 2, 0);
            for (int k = 1; k <= retries + 1; k++) {
                c.due("attempt " + k + " of RETRIES " + retries, x.about(0, 1), k);
                c.due("it runs", x.state(0), 1);
                c.due("it ends", x.advance(2), k > retries ? 1 : 0);
            }
            c.due("failed", x.state(0), 3);
            c.due("failed", x.about(0, 3), 2 * retries + 2);
        }
        RelayDesk y = Checks.desk(3);
        y.server(0, 1, 8, 1);
        y.damage(0, true);
        y.arrive(0, 0, 0, 2, 0);
        c.due("no server is ready: it ends", y.advance(2), 1);
        c.due("no server is ready: failed, not queued", y.state(0), 3);
        RelayDesk z = Checks.desk(3);
        z.server(0, 1, 8, 1);
        z.server(1, 1, 8, 1);
        z.damage(0, true);
        z.arrive(0, 0, 0, 2, 0);
        z.unroute(0);
        z.advance(2);
        c.due("its route was taken away", z.state(0), 3);
        RelayDesk late = Checks.desk(3);
        late.set(1, 4);
        late.set(2, 1);
        late.set(5, 2);
        late.server(0, 1, 8, 1);
        late.server(1, 1, 8, 1);
        late.arrive(0, 0, 0, 5, 0);
        late.advance(4);
        c.due("made again, though it came longer ago than WAIT", late.about(0, 1), 2);
        c.due("failed after TIMEOUT units more", late.advance(3), 0);
        c.due("failed after TIMEOUT units more", late.advance(1), 1);
        RelayDesk four = Checks.desk(15);
        four.set(1, 4);
        four.set(2, 3);
        for (int s = 0; s < 4; s++) {
            four.server(s, 1, 8, 1);
        }
        four.arrive(0, 0, 0, 5, 0);
        four.advance(15);
        c.due("each attempt has TIMEOUT units of its own", four.about(0, 1), 4);
        c.due("each attempt has TIMEOUT units of its own", four.advance(1), 1);
    }

    private void timeGrows() {
        c.says("A UNIT PASSES: time grows by 1, tokens come.");
        RelayDesk x = new RelayDesk();
        x.limit(0, 2, 1);
        x.arrive(0, 0, 0, 1, 0);
        x.arrive(0, 0, 0, 1, 0);
        for (int k = 1; k <= 3; k++) {
            x.advance(1);
            c.due("time()", x.time(), k);
            c.due("tokens(0)", x.tokens(0), Math.min(2, k));
        }
        x.advance(0);
        c.due("no unit", x.time(), 3);
        RelayDesk y = new RelayDesk();
        y.limit(0, 1, 7);
        y.arrive(0, 0, 0, 1, 0);
        y.advance(6);
        c.due("by the time that has grown: not at 6", y.tokens(0), 0);
        y.advance(1);
        c.due("by the time that has grown: at 7", y.tokens(0), 1);
    }

    private void attemptsEnd() {
        c.says("Attempts that end then end, in the order of their requests.");
        for (int before = 0; before <= 40; before++) {
            RelayDesk x = new RelayDesk();
            for (int k = 0; k < before; k++) {
                x.limit(5, 1, 1);
                x.arrive(5, 0, 0, 1, 0);
            }
            x.route(1, 7);
            x.server(0, 1, 1, 1);
            x.server(1, 1, 1, 1);
            x.damage(0, true);
            x.damage(1, true);
            int first = x.arrive(0, 1, 0, 4, 0);
            int second = x.arrive(0, 1, 0, 4, 0);
            x.server(2, 1, 1, 1);
            x.advance(4);
            c.due("request " + before + " takes the server that is ready", x.about(first, 0), 2);
            c.due("request " + (before + 1) + " takes what the first has left", x.about(second, 0), 0);
        }
        RelayDesk y = Checks.desk(3);
        y.server(0, 1, 1, 1);
        y.server(1, 1, 1, 1);
        y.damage(0, true);
        y.arrive(0, 0, 0, 4, 0);
        y.arrive(0, 0, 0, 4, 0);
        y.advance(4);
        c.due("what a later one will leave is not free yet", y.state(0), 3);
    }

    private void checks() {
        c.says("If time is a multiple of CHECK, each server is checked: if it is broken for the second time in a row "
            + "or more it is not up any more, if it is not broken for the second time or more it is up.");
        for (int s = 0; s < 6; s++) {
            RelayDesk x = new RelayDesk();
            x.set(4, 7);
            boolean[] broken = {true, false, true, true, true, false, true, false, false, false, true, true};
            int[] up = {1, 1, 1, 0, 0, 0, 0, 0, 1, 1, 1, 0};
            for (int k = 0; k < broken.length; k++) {
                x.damage(s, broken[k]);
                x.advance(6);
                c.due("server " + s + " before check " + k, x.at(s, 1), k == 0 ? 1 : up[k - 1]);
                x.advance(1);
                c.due("server " + s + " after check " + k, x.at(s, 1), up[k]);
                c.due("the next server", x.at((s + 1) % 6, 1), 1);
            }
        }
        RelayDesk y = new RelayDesk();
        y.damage(0, true);
        y.advance(10);
        y.damage(0, false);
        y.advance(9);
        y.damage(0, true);
        y.advance(1);
        c.due("what is between two checks does not count", y.at(0, 1), 0);
        RelayDesk z = shutDesk();
        z.damage(0, false);
        z.set(4, 1);
        z.advance(3);
        c.due("a check leaves the breaker", z.at(0, 2), 1);
        c.due("a check leaves the failures", z.at(0, 3), 3);
        RelayDesk later = Checks.desk(3);
        later.server(0, 1, 8, 1);
        later.server(1, 1, 8, 1);
        later.damage(1, true);
        later.advance(15);
        later.damage(0, true);
        later.arrive(0, 0, 0, 5, 0);
        later.advance(5);
        c.due("attempts that end then end before the check", later.about(0, 0), 1);
        c.due("and the check is made", later.at(1, 1), 0);
    }

    private void firstCheck() {
        c.says("(What was before the first check does not count.)");
        RelayDesk x = new RelayDesk();
        x.damage(0, true);
        x.advance(9);
        c.due("no check yet", x.at(0, 1), 1);
        x.advance(1);
        c.due("the first check", x.at(0, 1), 1);
        x.advance(10);
        c.due("the second check", x.at(0, 1), 0);
        RelayDesk y = new RelayDesk();
        y.set(4, 1);
        y.damage(0, true);
        y.advance(1);
        c.due("the first check, at time 1", y.at(0, 1), 1);
        y.advance(1);
        c.due("the second check, at time 2", y.at(0, 1), 0);
    }

    private void expiry() {
        c.says("Those that came WAIT units ago or more and are queued are expired.");
        for (int wait : new int[] {1, 2, 5}) {
            RelayDesk x = Checks.desk(1);
            x.set(5, wait);
            x.advance(3);
            x.arrive(0, 0, 0, 1, 0);
            c.due("WAIT " + wait + ", a unit before", x.advance(wait - 1), 0);
            c.due("WAIT " + wait + ", a unit before", x.state(0), 0);
            c.due("WAIT " + wait, x.advance(1), 1);
            c.due("WAIT " + wait, x.state(0), 4);
            c.due("WAIT " + wait, x.about(0, 3), 3 + wait);
            c.due("none is queued", x.queued(-1), 0);
        }
        RelayDesk y = Checks.desk(1);
        y.arrive(0, 0, 0, 1, 0);
        y.advance(50);
        y.set(5, 10);
        c.due("longer ago than WAIT", y.advance(1), 1);
        RelayDesk z = Checks.desk(1);
        z.set(5, 4);
        z.server(0, 1, 1, 1);
        z.arrive(0, 0, 0, 4, 0);
        z.arrive(0, 0, 0, 4, 0);
        z.advance(4);
        c.due("a running one is not", z.state(0), 2);
        c.due("before a server that is ready is looked for", z.state(1), 4);
        RelayDesk mixed = Checks.desk(1);
        mixed.set(5, 4);
        int[] ranks = {3, 1, 2, 0, 2, 1};
        for (int k = 0; k < 6; k++) {
            mixed.arrive(0, 0, 0, 4, ranks[k]);
            mixed.advance(k == 1 ? 1 : 0);
        }
        c.due("the first and the fourth of the queue", mixed.advance(3), 2);
        int[] left = {2, 4, 5, 3, -1};
        for (int k = 0; k < 5; k++) {
            c.due("the others keep their order, place " + k, mixed.queued(k), left[k]);
        }
        RelayDesk all = Checks.desk(1);
        all.set(5, 4);
        for (int k = 0; k < 8; k++) {
            all.arrive(0, 0, 0, 4, k % 4);
        }
        c.due("a full queue", all.advance(4), 8);
        c.due("a full queue", all.queued(-1), 0);
    }

    private void queueIsGoneThrough() {
        c.says("Those that are queued still are gone through in their order: each for which a server is ready makes "
            + "an attempt there.");
        RelayDesk x = Checks.desk(1);
        for (int k = 0; k < 8; k++) {
            x.arrive(0, 0, 0, 9, k % 4);
        }
        x.server(0, 1, 3, 1);
        c.due("not before a unit passes", x.queued(-1), 8);
        x.advance(1);
        int[] running = {3, 7, 2};
        for (int request : running) {
            c.due("request " + request, x.state(request), 1);
        }
        int[] left = {6, 1, 5, 0, 4};
        for (int k = 0; k < 5; k++) {
            c.due("left at " + k, x.queued(k), left[k]);
        }
        c.due("five are left", x.queued(-1), 5);
        RelayDesk y = Checks.desk(0);
        y.route(1, 1);
        y.arrive(0, 0, 0, 9, 3);
        y.arrive(0, 1, 0, 9, 0);
        y.server(0, 1, 1, 1);
        y.advance(1);
        c.due("no server for the first", y.state(0), 0);
        c.due("the last is looked at all the same", y.state(1), 1);
        RelayDesk z = Checks.desk(1);
        for (int k = 0; k < 8; k++) {
            z.arrive(0, 0, 0, 9, 1);
        }
        z.server(0, 1, 8, 1);
        z.advance(1);
        c.due("all of a full queue", z.at(0, 0), 8);
        c.due("none is left", z.queued(-1), 0);
    }
}
