/** Promise 8, and what the document says happens as a unit passes. */
public final class PassingTimeTest {
    private static final Checks C = new Checks();

    public static void main(String[] args) {
        advanceNumbers();
        countsDoneFailedExpired();
        firstBucket();
        attemptsEndInTheOrderOfRequests();
        slotFreedByALaterRequestIsNotFreeYet();
        checksNeedTwoInARow();
        settingCheckMovesTheChecks();
        checksComeAfterAttempts();
        checksComeBeforeTheQueue();
        expiry();
        expiryLeavesTheOrder();
        expiryComesBeforeTheQueue();
        queueIsGoneThroughInItsOrder();
        C.end();
    }

    private static void advanceNumbers() {
        RelayDesk x = new RelayDesk();
        C.due("P8 advance(-1)", x.advance(-1), -1);
        C.due("P8 advance(5001)", x.advance(5001), -1);
        C.due("P8 advance(MIN)", x.advance(Integer.MIN_VALUE), -1);
        C.due("P8 advance(MAX)", x.advance(Integer.MAX_VALUE), -1);
        C.due("P8 nothing passed", x.time(), 0);
        C.due("P8 advance(0)", x.advance(0), 0);
        C.due("P8 advance(0)", x.time(), 0);
        C.due("P8 advance(5000)", x.advance(5000), 0);
        C.due("P8 advance(5000)", x.time(), 5000);
        C.due("P8 advance(1)", x.advance(1), 0);
        C.due("P10 time", x.time(), 5001);
    }

    private static void countsDoneFailedExpired() {
        RelayDesk x = Checks.desk(1);
        x.route(1, 2);
        x.route(2, 4);
        x.server(0, 1, 8, 1);
        x.server(1, 1, 8, 1);
        x.damage(1, true);
        x.set(5, 5);
        x.arrive(0, 0, 0, 3, 0);
        x.arrive(0, 1, 0, 4, 0);
        x.arrive(0, 2, 0, 1, 0);
        C.due("P8 none yet", x.advance(2), 0);
        C.due("P8 one done", x.advance(1), 1);
        C.due("P8 one failed", x.advance(1), 1);
        C.due("P8 one expired", x.advance(1), 1);
        C.due("P8 not again", x.advance(50), 0);
        x.arrive(0, 0, 0, 3, 0);
        x.arrive(0, 1, 0, 4, 0);
        x.arrive(0, 2, 0, 1, 0);
        C.due("P8 all in one", x.advance(5), 3);
        C.due("P8 a rejected one does not count", x.total(5), 0);
        C.due("P16 done", x.total(2), 2);
        C.due("P16 failed", x.total(3), 1);
        C.due("P16 expired", x.total(4), 3);
        C.due("server 1 is down, so its request waits and expires", x.state(4), 4);
    }

    private static void firstBucket() {
        RelayDesk x = new RelayDesk();
        for (int k = 0; k < 5; k++) {
            C.due("buckets: first tokens", x.arrive(2, 0, 0, 1, 0), k);
        }
        C.due("buckets: used up", x.arrive(2, 0, 0, 1, 0), -3);
        x.advance(9);
        C.due("buckets: refill 10 at first", x.tokens(2), 0);
        x.advance(1);
        C.due("buckets: refill 10 at first", x.tokens(2), 1);
        x.advance(40);
        C.due("buckets: capacity 5 at first", x.tokens(2), 5);
        x.advance(10);
        C.due("buckets: capacity 5 at first", x.tokens(2), 5);
    }

    private static void attemptsEndInTheOrderOfRequests() {
        // Request 32 stands in the slot of request 0, and still ends after request 31.
        RelayDesk x = Checks.desk(0);
        x.server(0, 1, 8, 1);
        x.server(1, 1, 8, 1);
        x.server(2, 1, 1, 1);
        x.unroute(0);
        for (int k = 0; k < 30; k++) {
            x.arrive(k / 15, 0, 0, 1, 0);
        }
        x.route(1, 1);
        x.route(2, 2);
        x.set(2, 0);
        C.due("request 30", x.arrive(2, 1, 0, 4, 0), 30);
        C.due("request 31", x.arrive(3, 1, 0, 4, 0), 31);
        C.due("request 32", x.arrive(3, 2, 0, 4, 0), 32);
        x.advance(4);
        C.due("P19 of one unit the later request's server", x.home(3), 1);

        RelayDesk y = Checks.desk(7);
        y.server(0, 1, 1, 1);
        y.server(1, 1, 1, 1);
        y.damage(0, true);
        y.damage(1, true);
        y.arrive(0, 0, 0, 5, 0);
        y.arrive(0, 0, 0, 5, 0);
        y.server(2, 1, 1, 1);
        y.advance(5);
        C.due("the earlier request takes the only server that is ready", y.about(0, 0), 2);
        C.due("the later one may have server 0 that the earlier one left", y.about(1, 0), 0);
    }

    private static void slotFreedByALaterRequestIsNotFreeYet() {
        RelayDesk x = Checks.desk(3);
        x.server(0, 1, 1, 1);
        x.server(1, 1, 1, 1);
        x.damage(0, true);
        x.arrive(0, 0, 0, 5, 0);
        x.arrive(0, 0, 0, 5, 0);
        x.advance(5);
        C.due("request 0 finds server 1 busy still", x.state(0), 3);
        C.due("request 1 is done", x.state(1), 2);
    }

    private static void checksNeedTwoInARow() {
        RelayDesk x = new RelayDesk();
        x.damage(0, true);
        x.advance(10);
        C.due("one check", x.at(0, 1), 1);
        x.damage(0, false);
        x.advance(10);
        x.damage(0, true);
        x.advance(10);
        C.due("two, but not in a row", x.at(0, 1), 1);
        x.damage(0, false);
        x.advance(5);
        x.damage(0, true);
        x.advance(4);
        C.due("second check not yet", x.at(0, 1), 1);
        x.advance(1);
        C.due("only checks count", x.at(0, 1), 0);
        C.due("others as before", x.at(1, 1), 1);
        x.advance(30);
        C.due("stays down", x.at(0, 1), 0);
        x.damage(0, false);
        x.advance(10);
        C.due("one good check", x.at(0, 1), 0);
        x.damage(0, true);
        x.advance(10);
        x.damage(0, false);
        x.advance(10);
        C.due("good ones not in a row", x.at(0, 1), 0);
        x.advance(10);
        C.due("two good ones", x.at(0, 1), 1);
        x.advance(30);
        C.due("stays up", x.at(0, 1), 1);
        x.damage(0, true);
        x.advance(10);
        C.due("after many good checks one bad is not enough", x.at(0, 1), 1);
        x.advance(10);
        C.due("two are", x.at(0, 1), 0);
    }

    private static void settingCheckMovesTheChecks() {
        RelayDesk x = new RelayDesk();
        x.set(4, 3);
        x.damage(5, true);
        x.advance(5);
        C.due("checks at 3", x.at(5, 1), 1);
        x.advance(1);
        C.due("checks at 3 and 6", x.at(5, 1), 0);
        x.damage(5, false);
        x.set(4, 100);
        x.advance(94);
        C.due("check at 100", x.at(5, 1), 0);
        x.set(4, 1);
        x.advance(1);
        C.due("check at 101", x.at(5, 1), 1);
    }

    private static void checksComeAfterAttempts() {
        // At time 20 server 1 goes down, but only after request 0 has moved there.
        RelayDesk x = Checks.desk(3);
        x.server(0, 1, 8, 1);
        x.server(1, 1, 8, 1);
        x.damage(1, true);
        x.advance(15);
        x.damage(0, true);
        x.arrive(0, 0, 0, 5, 0);
        C.due("at server 0 first", x.about(0, 0), 0);
        x.advance(5);
        C.due("attempts end before the checks", x.about(0, 0), 1);
        C.due("the check was made", x.at(1, 1), 0);
        C.due("it runs at a server that is down", x.state(0), 1);
    }

    private static void checksComeBeforeTheQueue() {
        RelayDesk x = Checks.desk(1);
        x.server(0, 1, 8, 1);
        x.damage(0, true);
        x.advance(20);
        x.damage(0, false);
        x.arrive(0, 0, 0, 5, 0);
        C.due("down: queued", x.state(0), 0);
        x.advance(19);
        C.due("still queued", x.state(0), 0);
        x.advance(1);
        C.due("begun in the unit of the check", x.state(0), 1);
    }

    private static void expiry() {
        RelayDesk x = Checks.desk(1);
        x.set(5, 4);
        x.arrive(0, 0, 0, 1, 0);
        x.advance(1);
        x.arrive(0, 0, 0, 1, 3);
        C.due("not before WAIT units", x.advance(2), 0);
        C.due("after WAIT units", x.advance(1), 1);
        C.due("state", x.state(0), 4);
        C.due("when", x.about(0, 3), 4);
        C.due("the other one waits", x.queued(0), 1);
        x.set(5, 1000);
        C.due("WAIT as it is now", x.advance(5), 0);
        x.set(5, 2);
        C.due("WAIT units ago or more", x.advance(1), 1);
        C.due("none is queued", x.queued(-1), 0);
        RelayDesk y = Checks.desk(1);
        y.server(0, 1, 1, 10);
        y.set(5, 3);
        y.arrive(0, 0, 0, 1, 0);
        C.due("a running one does not expire", y.advance(9), 0);
        C.due("it is done", y.advance(1), 1);
        C.due("it is done", y.state(0), 2);
    }

    private static void expiryLeavesTheOrder() {
        RelayDesk x = Checks.desk(1);
        x.set(5, 4);
        x.arrive(0, 0, 0, 1, 3);
        x.arrive(0, 0, 0, 1, 1);
        x.advance(1);
        x.arrive(0, 0, 0, 1, 2);
        x.arrive(0, 0, 0, 1, 0);
        C.due("the first and the third of the queue", x.advance(3), 2);
        C.due("left 0", x.queued(0), 2);
        C.due("left 1", x.queued(1), 3);
        C.due("left 2", x.queued(2), -1);
    }

    private static void expiryComesBeforeTheQueue() {
        RelayDesk x = Checks.desk(1);
        x.server(0, 1, 1, 1);
        x.set(5, 5);
        x.arrive(0, 0, 0, 5, 0);
        x.arrive(0, 0, 0, 5, 0);
        C.due("one done, one expired", x.advance(5), 2);
        C.due("though a server was ready", x.state(1), 4);
    }

    private static void queueIsGoneThroughInItsOrder() {
        RelayDesk x = Checks.desk(1);
        x.route(1, 2);
        x.arrive(0, 0, 0, 5, 1);
        x.arrive(0, 1, 0, 5, 0);
        x.arrive(0, 0, 0, 5, 2);
        x.arrive(0, 0, 0, 5, 2);
        x.server(0, 1, 1, 1);
        x.server(1, 1, 1, 1);
        C.due("order 0", x.queued(0), 2);
        C.due("order 1", x.queued(1), 3);
        C.due("order 2", x.queued(2), 0);
        C.due("order 3", x.queued(3), 1);
        x.advance(1);
        C.due("first of the queue", x.state(2), 1);
        C.due("no server for the second", x.state(3), 0);
        C.due("no server for the third", x.state(0), 0);
        C.due("another server for the last", x.state(1), 1);
        C.due("left 0", x.queued(0), 3);
        C.due("left 1", x.queued(1), 0);
        C.due("left 2", x.queued(2), -1);
        x.advance(5);
        C.due("next in the unit in which a slot is free", x.state(3), 1);
        x.advance(5);
        C.due("last", x.state(0), 1);
    }
}
