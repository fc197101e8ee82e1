/** Promise 9. */
public final class ArriveTest {
    private static final Checks C = new Checks();

    public static void main(String[] args) {
        wrongNumbers();
        edgesOfNumbers();
        noRoute();
        limited();
        full();
        fullBeforeLimited();
        refusedBeforeFull();
        readyServerGoesBeforeTheQueue();
        queueIsFull();
        lastOfTheQueueGivesWay();
        C.end();
    }

    private static void wrongNumbers() {
        RelayDesk x = Checks.desk(1);
        x.server(0, 1, 8, 1);
        int[][] wrong = {{-1, 0, 0, 1, 0}, {6, 0, 0, 1, 0}, {0, -1, 0, 1, 0}, {0, 8, 0, 1, 0}, {0, 4096, 0, 1, 0},
            {0, 0, -1, 1, 0}, {0, 0, 256, 1, 0}, {0, 0, 0, 0, 0}, {0, 0, 0, 101, 0}, {0, 0, 0, 1, -1},
            {0, 0, 0, 1, 4}, {Integer.MIN_VALUE, 0, 0, 1, 0}, {0, 0, 0, Integer.MAX_VALUE, 0}};
        for (int[] w : wrong) {
            C.due("P9 arrive" + java.util.Arrays.toString(w), x.arrive(w[0], w[1], w[2], w[3], w[4]), -1);
        }
        C.due("P9 none came", x.total(0), 0);
        C.due("P9 no token went", x.tokens(0), 20);
        C.due("P9 not limited", x.total(6), 0);
    }

    private static void edgesOfNumbers() {
        RelayDesk x = Checks.desk(1);
        x.server(0, 1, 8, 1);
        C.due("P9 least numbers", x.arrive(0, 0, 0, 1, 0), 0);
        C.due("P9 greatest numbers", x.arrive(5, 07777, 255, 100, 3), 1);
        C.due("P9 a token went", x.tokens(0), 19);
        C.due("P9 a token went", x.tokens(5), 19);
        C.due("P9 no other token went", x.tokens(1), 20);
        C.due("P9 work 1", x.advance(1), 1);
        C.due("P9 work 100", x.advance(98), 0);
        C.due("P9 work 100", x.advance(1), 1);
        C.due("P9 work 100 is done", x.state(1), 2);
    }

    private static void noRoute() {
        RelayDesk x = new RelayDesk();
        x.route(012, 63);
        x.advance(3);
        C.due("P9 shorter than the route", x.arrive(0, 1, 0, 1, 0), 0);
        C.due("P9 rejected", x.state(0), 5);
        C.due("P9 when", x.about(0, 3), 3);
        C.due("P9 no attempt", x.about(0, 1), 0);
        C.due("P9 no server", x.about(0, 0), -1);
        C.due("P9 a token went all the same", x.tokens(0), 4);
        C.due("P9 arrive", x.arrive(0, 021, 0, 1, 0), 1);
        C.due("P9 rejected", x.state(1), 5);
        C.due("P9 arrive", x.arrive(0, 0112, 0, 1, 0), 2);
        C.due("P9 the path's end is not its beginning", x.state(2), 5);
        C.due("P9 counted", x.total(5), 3);
    }

    private static void limited() {
        RelayDesk x = new RelayDesk();
        x.limit(0, 1, 100);
        C.due("P9 one token", x.arrive(0, 0, 0, 1, 0), 0);
        C.due("P9 none", x.arrive(0, 0, 0, 1, 0), -3);
        C.due("P9 none", x.arrive(0, 0, 0, 1, 0), -3);
        C.due("P16 limited", x.total(6), 2);
        C.due("P16 came", x.total(0), 1);
        C.due("P9 tokens not below 0", x.tokens(0), 0);
        C.due("P9 wrong numbers before tokens", x.arrive(0, 0, 0, 0, 0), -1);
        C.due("P16 limited", x.total(6), 2);
        C.due("P9 another client", x.arrive(1, 0, 0, 1, 0), 1);
        x.limit(2, 0, 1);
        x.advance(10);
        C.due("P9 capacity 0", x.arrive(2, 0, 0, 1, 0), -3);
    }

    /** Request 0 runs long; 31 more come and are rejected. */
    private static RelayDesk fullDesk() {
        RelayDesk x = Checks.desk(0);
        x.unroute(0);
        x.route(1, 1);
        x.server(0, 1, 1, 1);
        x.arrive(0, 1, 0, 50, 0);
        for (int k = 1; k < 32; k++) {
            x.arrive(1 + k / 16, 0, 0, 1, 0);
        }
        return x;
    }

    private static void full() {
        RelayDesk x = fullDesk();
        C.due("P9 32 came", x.total(0), 32);
        C.due("P9 the 33rd", x.arrive(0, 0, 0, 1, 0), -2);
        C.due("P9 the 33rd", x.arrive(0, 1, 0, 1, 0), -2);
        C.due("P9 none came", x.total(0), 32);
        C.due("P9 no token went", x.tokens(0), 19);
        C.due("P9 request 0 as before", x.state(0), 1);
        C.due("P9 advance", x.advance(50), 1);
        C.due("P9 request 0 is done", x.state(0), 2);
        C.due("P9 room", x.arrive(0, 0, 0, 1, 0), 32);
        C.due("P11 request 0 is not among the latest 32", x.state(0), -1);

        RelayDesk y = fullDesk();
        y.advance(50);
        y.server(0, 0, 1, 1);
        y.arrive(0, 1, 0, 1, 0);
        C.due("P9 request 32 is queued", y.state(32), 0);
        for (int k = 33; k < 64; k++) {
            C.due("P9 others", y.arrive(1 + k % 5, 0, 0, 1, 0), k);
        }
        C.due("P9 request 32 is queued still", y.arrive(0, 0, 0, 1, 0), -2);
        y.advance(99);
        C.due("P9 request 32 is queued still", y.arrive(0, 0, 0, 1, 0), -2);
        y.advance(1);
        C.due("P9 request 32 is expired", y.arrive(0, 0, 0, 1, 0), 64);
    }

    private static void fullBeforeLimited() {
        RelayDesk x = fullDesk();
        x.limit(5, 0, 1);
        C.due("P9 FULL before LIMITED", x.arrive(5, 0, 0, 1, 0), -2);
        C.due("P16 not limited", x.total(6), 0);
    }

    private static void refusedBeforeFull() {
        RelayDesk x = fullDesk();
        C.due("P9 REFUSED before FULL", x.arrive(0, 0, 0, 0, 0), -1);
        C.due("P9 REFUSED before FULL", x.arrive(0, 8, 0, 1, 0), -1);
    }

    private static void readyServerGoesBeforeTheQueue() {
        RelayDesk x = Checks.desk(1);
        x.arrive(0, 0, 0, 5, 3);
        x.server(0, 1, 1, 1);
        x.arrive(0, 0, 0, 5, 0);
        C.due("P9 a server is ready for it", x.state(1), 1);
        C.due("P9 at once", x.at(0, 0), 1);
        C.due("P9 the queued one waits", x.state(0), 0);
        C.due("P12 attempts", x.about(1, 1), 1);
        x.advance(5);
        C.due("P9 the queued one has its turn", x.state(0), 1);
    }

    private static RelayDesk deskWithQueue(int... ranks) {
        RelayDesk x = Checks.desk(1);
        for (int rank : ranks) {
            x.arrive(0, 0, 0, 5, rank);
        }
        return x;
    }

    private static void queueIsFull() {
        RelayDesk x = deskWithQueue(1, 1, 1, 1, 1, 1, 1, 1);
        C.due("P15 8 are queued", x.queued(-1), 8);
        x.advance(2);
        C.due("P9 a ninth of the same rank", x.arrive(0, 0, 0, 5, 1), 8);
        C.due("P9 is rejected itself", x.state(8), 5);
        C.due("P12 when", x.about(8, 3), 2);
        C.due("P9 of a lower rank", x.arrive(0, 0, 0, 5, 0), 9);
        C.due("P9 is rejected itself", x.state(9), 5);
        C.due("P15 the queue as before", x.queued(7), 7);
        C.due("P15 8 are queued", x.queued(-1), 8);
        C.due("P16 rejected", x.total(5), 2);
    }

    private static void lastOfTheQueueGivesWay() {
        RelayDesk x = deskWithQueue(1, 3, 0, 1, 0, 2, 3, 0);
        x.advance(4);
        C.due("P9 a higher rank than the last", x.arrive(0, 0, 0, 5, 1), 8);
        C.due("P9 it is queued", x.state(8), 0);
        C.due("P9 the last is rejected", x.state(7), 5);
        C.due("P12 when", x.about(7, 3), 4);
        int[] order = {1, 6, 5, 0, 3, 8, 2, 4};
        for (int k = 0; k < 8; k++) {
            C.due("P15 queued(" + k + ")", x.queued(k), order[k]);
        }
        x.arrive(0, 0, 0, 5, 3);
        int[] next = {1, 6, 9, 5, 0, 3, 8, 2};
        for (int k = 0; k < 8; k++) {
            C.due("P15 queued(" + k + ")", x.queued(k), next[k]);
        }
        C.due("P9 again the last", x.state(4), 5);
        C.due("P16 rejected", x.total(5), 2);
        x.server(0, 1, 8, 1);
        C.due("P9 nothing of the rejected ones comes back", x.advance(20), 8);
    }
}
