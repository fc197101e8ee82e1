/** How attempts run, end and are made again, and how breakers shut servers out. */
public final class AttemptTest {
    private static final Checks C = new Checks();

    public static void main(String[] args) {
        workTimesPace();
        timeoutIsThatOfTheStart();
        brokenOnlyWhenItEnds();
        retries();
        retriesAsTheyAreNow();
        retryOnlyWhereNoneWasMade();
        retryDoesNotQueue();
        breakerShutsAtThree();
        failuresInARow();
        breakerShutLetsOneThrough();
        runningOnesKeepItShut();
        runningOnesCloseIt();
        restAsItIsNow();
        breakerLeavesRetry();
        C.end();
    }

    private static void workTimesPace() {
        RelayDesk x = Checks.desk(1);
        x.server(0, 1, 8, 7);
        x.advance(3);
        x.arrive(0, 0, 0, 6, 0);
        C.due("41 units", x.advance(41), 0);
        C.due("42 units", x.advance(1), 1);
        C.due("done", x.state(0), 2);
        C.due("P12 came", x.about(0, 2), 3);
        C.due("P12 done", x.about(0, 3), 45);
        C.due("P17 took", x.took(0), 42);
    }

    private static void timeoutIsThatOfTheStart() {
        RelayDesk x = Checks.desk(1);
        x.server(0, 1, 8, 1);
        x.arrive(0, 0, 0, 10, 0);
        x.set(1, 4);
        x.arrive(0, 0, 0, 10, 0);
        x.arrive(0, 0, 0, 4, 0);
        x.set(1, 1000);
        C.due("at TIMEOUT the second and third end", x.advance(4), 2);
        C.due("too long", x.state(1), 3);
        C.due("just not too long", x.state(2), 2);
        C.due("the first goes on", x.advance(6), 1);
        C.due("the first is done", x.state(0), 2);
        x.set(1, 1);
        x.arrive(0, 0, 0, 1, 0);
        C.due("TIMEOUT 1", x.advance(1), 1);
        C.due("TIMEOUT 1", x.state(3), 2);
    }

    private static void brokenOnlyWhenItEnds() {
        RelayDesk x = Checks.desk(1);
        x.server(0, 1, 8, 1);
        x.arrive(0, 0, 0, 5, 0);
        x.advance(2);
        x.damage(0, true);
        x.advance(2);
        x.damage(0, false);
        x.advance(1);
        C.due("broken on the way does not count", x.state(0), 2);
        x.arrive(0, 0, 0, 5, 0);
        x.advance(4);
        x.damage(0, true);
        x.advance(1);
        C.due("broken at the end does", x.state(1), 3);
        C.due("P13 failures", x.at(0, 3), 1);
        C.due("P13 successes", x.at(0, 4), 1);
        C.due("a failed one leaves the home", x.home(0), 0);
        C.due("P12 when", x.about(1, 3), 10);
    }

    private static RelayDesk brokenDesk(int retries) {
        RelayDesk x = Checks.desk(63);
        x.set(2, retries);
        for (int s = 0; s < 6; s++) {
            x.server(s, 1, 8, 1);
            x.damage(s, true);
        }
        return x;
    }

    private static void retries() {
        for (int retries = 0; retries <= 3; retries++) {
            RelayDesk x = brokenDesk(retries);
            x.arrive(0, 0, 0, 2, 0);
            for (int k = 0; k < retries; k++) {
                C.due("not failed yet", x.advance(2), 0);
                C.due("made again at once", x.state(0), 1);
                C.due("P12 attempts", x.about(0, 1), k + 2);
                C.due("P12 server", x.about(0, 0), k + 1);
            }
            C.due("failed", x.advance(2), 1);
            C.due("failed", x.state(0), 3);
            C.due("P12 attempts", x.about(0, 1), retries + 1);
            C.due("P12 server of the latest attempt", x.about(0, 0), retries);
            C.due("P12 when", x.about(0, 3), 2 * retries + 2);
        }
    }

    private static void retriesAsTheyAreNow() {
        RelayDesk x = brokenDesk(0);
        x.arrive(0, 0, 0, 2, 0);
        x.set(2, 2);
        x.advance(4);
        C.due("RETRIES as they are when it ends", x.about(0, 1), 3);
        x.set(2, 1);
        C.due("fewer now", x.advance(2), 1);
    }

    private static void retryOnlyWhereNoneWasMade() {
        RelayDesk x = Checks.desk(3);
        x.set(2, 3);
        x.server(0, 1, 8, 1);
        x.server(1, 1, 8, 1);
        x.damage(0, true);
        x.damage(1, true);
        x.arrive(0, 0, 0, 2, 0);
        C.due("two servers, two attempts", x.advance(3), 0);
        C.due("two servers, two attempts", x.advance(1), 1);
        C.due("P12 attempts", x.about(0, 1), 2);
        C.due("failed", x.state(0), 3);
    }

    private static void retryDoesNotQueue() {
        RelayDesk x = Checks.desk(3);
        x.server(0, 1, 8, 1);
        x.server(1, 1, 1, 1);
        x.damage(0, true);
        x.arrive(0, 0, 0, 2, 0);
        x.arrive(0, 0, 0, 9, 0);
        C.due("no server is ready", x.advance(2), 1);
        C.due("failed, not queued", x.state(0), 3);
        C.due("none queued", x.queued(-1), 0);
    }

    private static RelayDesk desk0(int slots) {
        RelayDesk x = Checks.desk(1);
        x.server(0, 1, slots, 1);
        x.set(3, 6);
        x.set(4, 100);
        x.damage(0, true);
        return x;
    }

    private static void breakerShutsAtThree() {
        RelayDesk x = desk0(8);
        for (int k = 0; k < 3; k++) {
            C.due("closed", x.at(0, 2), 0);
            x.arrive(0, 0, 0, 1, 0);
            x.advance(1);
            C.due("failures", x.at(0, 3), k + 1);
        }
        C.due("P13 shut till 9, at 3", x.at(0, 2), 1);
        x.arrive(0, 0, 0, 1, 0);
        C.due("not ready", x.state(3), 0);
        x.advance(5);
        C.due("P13 shut till 9, at 8", x.at(0, 2), 1);
        C.due("not ready", x.state(3), 0);
        x.advance(1);
        C.due("P13 shut till 9, at 9", x.at(0, 2), 2);
        C.due("ready", x.state(3), 1);
    }

    private static void failuresInARow() {
        RelayDesk x = desk0(8);
        for (int k = 0; k < 6; k++) {
            x.damage(0, k != 2 && k != 5);
            x.arrive(0, 0, 0, 1, 0);
            x.advance(1);
        }
        C.due("never three in a row", x.at(0, 2), 0);
        C.due("none after a success", x.at(0, 3), 0);
        C.due("P13 successes", x.at(0, 4), 2);
    }

    /** Breaker shut at time 3 till 9. */
    private static RelayDesk shutDesk() {
        RelayDesk x = desk0(8);
        for (int k = 0; k < 3; k++) {
            x.arrive(0, 0, 0, 1, 0);
            x.advance(1);
        }
        return x;
    }

    private static void breakerShutLetsOneThrough() {
        RelayDesk x = shutDesk();
        x.advance(7);
        x.arrive(0, 0, 0, 2, 0);
        x.arrive(0, 0, 0, 2, 0);
        C.due("one", x.state(3), 1);
        C.due("no other while it runs", x.state(4), 0);
        C.due("P13 still shut", x.at(0, 2), 2);
        x.advance(2);
        C.due("it failed", x.state(3), 3);
        C.due("P13 shut again, till 18", x.at(0, 2), 1);
        C.due("P13 failures", x.at(0, 3), 4);
        C.due("the other one waits", x.state(4), 0);
        x.damage(0, false);
        x.advance(5);
        C.due("the other one waits", x.state(4), 0);
        x.advance(1);
        C.due("the other one", x.state(4), 1);
        x.advance(2);
        C.due("it is done", x.state(4), 2);
        C.due("P13 closed", x.at(0, 2), 0);
        C.due("P13 failures", x.at(0, 3), 0);
        x.arrive(0, 0, 0, 2, 0);
        x.arrive(0, 0, 0, 2, 0);
        C.due("as many as slots again", x.at(0, 0), 2);
    }

    private static void runningOnesKeepItShut() {
        RelayDesk x = desk0(8);
        x.arrive(0, 0, 0, 1, 0);
        x.arrive(0, 0, 0, 1, 0);
        x.arrive(0, 0, 0, 1, 0);
        x.arrive(0, 0, 0, 4, 0);
        x.arrive(0, 0, 0, 20, 0);
        x.advance(1);
        C.due("shut till 7", x.at(0, 2), 1);
        x.advance(3);
        C.due("a fourth fails: till 10", x.at(0, 3), 4);
        x.advance(5);
        C.due("till 10, at 9", x.at(0, 2), 1);
        x.advance(1);
        C.due("till 10, at 10", x.at(0, 2), 2);
        x.arrive(0, 0, 0, 1, 0);
        C.due("not ready while one from before runs", x.state(5), 0);
        x.advance(10);
        C.due("that one fails too, at 20", x.state(4), 3);
        C.due("shut again", x.at(0, 2), 1);
    }

    private static void runningOnesCloseIt() {
        RelayDesk x = desk0(8);
        x.arrive(0, 0, 0, 1, 0);
        x.arrive(0, 0, 0, 1, 0);
        x.arrive(0, 0, 0, 1, 0);
        x.arrive(0, 0, 0, 3, 0);
        x.advance(1);
        C.due("shut", x.at(0, 2), 1);
        x.damage(0, false);
        x.advance(2);
        C.due("a success closes it before its time", x.at(0, 2), 0);
        C.due("failures 0", x.at(0, 3), 0);
    }

    private static void restAsItIsNow() {
        RelayDesk x = shutDesk();
        x.set(3, 1000);
        x.advance(6);
        C.due("REST of then", x.at(0, 2), 2);
        x.arrive(0, 0, 0, 1, 0);
        x.advance(1);
        C.due("P13 shut at 10", x.at(0, 2), 1);
        x.advance(999);
        C.due("REST of now", x.at(0, 2), 1);
        x.advance(1);
        C.due("REST of now", x.at(0, 2), 2);
    }

    private static void breakerLeavesRetry() {
        RelayDesk x = Checks.desk(1);
        x.server(0, 1, 8, 1);
        x.server(1, 1, 8, 1);
        x.damage(0, true);
        for (int k = 0; k < 3; k++) {
            x.arrive(0, 0, 0, 1, 0);
        }
        x.advance(1);
        C.due("server 0 is shut", x.at(0, 2), 1);
        x.route(0, 3);
        x.damage(1, true);
        x.arrive(0, 0, 0, 1, 0);
        C.due("not at the shut one", x.about(3, 0), 1);
        C.due("nor made again there", x.advance(1), 1);
        C.due("failed", x.about(3, 1), 1);
    }
}
