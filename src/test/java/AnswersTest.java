/** Promises 10 to 18: what the questions answer; and 19. */
public final class AnswersTest {
    private static final Checks C = new Checks();

    public static void main(String[] args) {
        state();
        about();
        at();
        tokens();
        queued();
        total();
        took();
        tookOnlyOfTheLatest();
        home();
        homeByWhenTheyWereDone();
        C.end();
    }

    private static void state() {
        RelayDesk x = Checks.desk(1);
        x.server(0, 1, 1, 1);
        C.due("P11 none yet", x.state(0), -1);
        x.arrive(0, 0, 0, 2, 0);
        x.arrive(0, 0, 0, 2, 0);
        C.due("P11 running", x.state(0), 1);
        C.due("P11 queued", x.state(1), 0);
        C.due("P11 next number", x.state(2), -1);
        C.due("P11 -1", x.state(-1), -1);
        C.due("P11 MIN", x.state(Integer.MIN_VALUE), -1);
        C.due("P11 MAX", x.state(Integer.MAX_VALUE), -1);
        x.advance(2);
        C.due("P11 done", x.state(0), 2);
        C.due("P11 running", x.state(1), 1);
        x.advance(2);
        x.unroute(0);
        for (int k = 2; k < 34; k++) {
            x.arrive(k % 6, 0, 0, 2, 0);
        }
        C.due("P11 request 1 is the 33rd latest", x.state(1), -1);
        C.due("P11 request 2 is the 32nd latest", x.state(2), 5);
        C.due("P11 the latest", x.state(33), 5);
        C.due("P11 the next", x.state(34), -1);
        C.due("P12 request 1 likewise", x.about(1, 1), -2);
        C.due("P12 request 2 likewise", x.about(2, 1), 0);
        C.due("P12 the next likewise", x.about(34, 1), -2);
        int[] due = {-1, 0, 4, 4};
        for (int what = 0; what < 4; what++) {
            C.due("P12 nothing of request 0 is left in request 32", x.about(32, what), due[what]);
        }
    }

    private static void about() {
        RelayDesk x = Checks.desk(3);
        x.server(0, 1, 1, 1);
        x.damage(0, true);
        x.advance(7);
        x.arrive(0, 0, 0, 5, 0);
        x.arrive(0, 0, 0, 5, 0);
        int[][] due = {{0, 1, 7, -1}, {-1, 0, 7, -1}};
        for (int request = 0; request < 2; request++) {
            for (int what = 0; what < 4; what++) {
                C.due("P12 about(" + request + ", " + what + ")", x.about(request, what), due[request][what]);
            }
            C.due("P12 about(" + request + ", -1)", x.about(request, -1), -2);
            C.due("P12 about(" + request + ", 4)", x.about(request, 4), -2);
        }
        C.due("P12 none", x.about(2, 0), -2);
        C.due("P12 none", x.about(-1, 0), -2);
        C.due("P12 none", x.about(Integer.MIN_VALUE, 3), -2);
        x.advance(1);
        x.server(1, 1, 1, 1);
        x.advance(4);
        C.due("P12 failed when", x.about(0, 3), 12);
        C.due("P12 latest server", x.about(1, 0), 1);
        x.advance(10);
        C.due("P12 came when", x.about(1, 2), 7);
        C.due("P12 done when", x.about(1, 3), 14);
    }

    private static void at() {
        RelayDesk x = Checks.desk(1);
        int[][] wrong = {{-1, 0}, {6, 0}, {0, -1}, {0, 6}, {Integer.MIN_VALUE, 0}, {0, Integer.MAX_VALUE}};
        for (int[] w : wrong) {
            C.due("P13 at" + java.util.Arrays.toString(w), x.at(w[0], w[1]), -1);
        }
        x.server(0, 4, 3, 1);
        x.arrive(0, 0, 0, 4, 0);
        x.arrive(0, 0, 0, 4, 0);
        C.due("P13 running", x.at(0, 0), 2);
        C.due("P13 succeeded", x.at(0, 4), 0);
        x.advance(4);
        C.due("P13 running", x.at(0, 0), 0);
        C.due("P13 succeeded", x.at(0, 4), 2);
        C.due("P13 another's", x.at(1, 4), 0);
    }

    private static void tokens() {
        RelayDesk x = new RelayDesk();
        C.due("P14 tokens(-1)", x.tokens(-1), -1);
        C.due("P14 tokens(6)", x.tokens(6), -1);
        C.due("P14 tokens(MIN)", x.tokens(Integer.MIN_VALUE), -1);
        x.arrive(3, 0, 0, 1, 0);
        x.arrive(3, 0, 0, 1, 0);
        C.due("P14 tokens(3)", x.tokens(3), 3);
        C.due("P14 tokens(4)", x.tokens(4), 5);
    }

    private static void queued() {
        RelayDesk x = Checks.desk(1);
        C.due("P15 none", x.queued(-1), 0);
        C.due("P15 none", x.queued(0), -1);
        x.arrive(0, 0, 0, 1, 0);
        x.arrive(0, 0, 0, 1, 1);
        C.due("P15 how many", x.queued(-1), 2);
        C.due("P15 first", x.queued(0), 1);
        C.due("P15 second", x.queued(1), 0);
        C.due("P15 third", x.queued(2), -1);
        C.due("P15 queued(8)", x.queued(8), -1);
        C.due("P15 queued(-2)", x.queued(-2), -1);
        C.due("P15 queued(MIN)", x.queued(Integer.MIN_VALUE), -1);
        C.due("P15 queued(MAX)", x.queued(Integer.MAX_VALUE), -1);
    }

    private static void total() {
        RelayDesk x = Checks.desk(1);
        x.server(0, 1, 1, 1);
        x.arrive(0, 0, 0, 4, 0);
        x.arrive(0, 0, 0, 5, 0);
        x.advance(9);
        x.unroute(0);
        x.arrive(0, 0, 0, 5, 0);
        x.limit(0, 0, 1);
        x.arrive(0, 0, 0, 5, 0);
        long[] due = {3, 13, 2, 0, 0, 1, 1};
        for (int what = 0; what < 7; what++) {
            C.due("P16 total(" + what + ")", x.total(what), due[what]);
        }
        C.due("P16 total(-1)", x.total(-1), -1);
        C.due("P16 total(7)", x.total(7), -1);
        C.due("P16 total(MIN)", x.total(Integer.MIN_VALUE), -1);
        C.due("P16 total(MAX)", x.total(Integer.MAX_VALUE), -1);
    }

    private static void took() {
        RelayDesk x = Checks.desk(1);
        x.server(0, 1, 8, 1);
        C.due("P17 none", x.took(0), -1);
        int[] works = {5, 3, 9, 3, 7};
        for (int work : works) {
            x.arrive(0, 0, 0, work, 0);
        }
        x.advance(20);
        x.damage(0, true);
        x.arrive(0, 0, 0, 2, 0);
        x.advance(2);
        C.due("P17 a failed one does not count", x.took(-1), 5);
        int[] sorted = {3, 3, 5, 7, 9};
        for (int k = 0; k < 5; k++) {
            C.due("P17 took(" + k + ")", x.took(k), sorted[k]);
        }
        C.due("P17 took(5)", x.took(5), -1);
        C.due("P17 took(-2)", x.took(-2), -1);
        C.due("P17 took(MIN)", x.took(Integer.MIN_VALUE), -1);
        C.due("P17 took(MAX)", x.took(Integer.MAX_VALUE), -1);
    }

    private static void tookOnlyOfTheLatest() {
        RelayDesk x = Checks.desk(1);
        x.server(0, 1, 8, 1);
        for (int k = 1; k <= 70; k++) {
            x.arrive(0, 0, 0, k, 0);
            x.advance(k);
        }
        C.due("P17 64 at most", x.took(-1), 64);
        C.due("P17 the six first are left out", x.took(0), 7);
        C.due("P17 in the middle", x.took(32), 39);
        C.due("P17 the greatest", x.took(63), 70);
        C.due("P17 took(64)", x.took(64), -1);
        C.due("P16 all of them", x.total(1), 70 * 71 / 2);
        C.due("P16 all of them", x.total(2), 70);

        // The first to come is done last: it is one of the latest that were done.
        RelayDesk y = Checks.desk(1);
        y.server(0, 1, 8, 1);
        for (int round = 0; round < 13; round++) {
            y.arrive(0, 0, 0, 30, 0);
            for (int k = 0; k < 5; k++) {
                y.arrive(1, 0, 0, 1 + k, 0);
            }
            y.advance(30);
        }
        C.due("P17 64 at most", y.took(-1), 64);
        C.due("P17 11 took 30", y.took(53), 30);
        C.due("P17 11 took 30", y.took(52), 5);
        C.due("P17 of the others the first ones are left out", y.took(9), 1);
        C.due("P17 of the others the first ones are left out", y.took(10), 2);
        C.due("P16 done", y.total(2), 78);
    }

    private static void home() {
        RelayDesk x = Checks.desk(4);
        x.server(2, 1, 8, 1);
        C.due("P18 none yet", x.home(0), -1);
        C.due("P18 home(-1)", x.home(-1), -1);
        C.due("P18 home(6)", x.home(6), -1);
        C.due("P18 home(MIN)", x.home(Integer.MIN_VALUE), -1);
        x.arrive(5, 0, 0, 2, 0);
        x.advance(1);
        C.due("P18 not before it is done", x.home(5), -1);
        x.advance(1);
        C.due("P18 home(5)", x.home(5), 2);
        C.due("P18 home(0)", x.home(0), -1);
        x.advance(5000);
        C.due("P18 a home has no end", x.home(5), 2);
    }

    private static void homeByWhenTheyWereDone() {
        RelayDesk x = Checks.desk(1);
        x.route(1, 2);
        x.server(0, 1, 8, 1);
        x.server(1, 1, 8, 1);
        x.arrive(0, 0, 0, 9, 0);
        x.arrive(0, 1, 0, 3, 0);
        x.advance(3);
        C.due("P19 done first", x.home(0), 1);
        x.advance(6);
        C.due("P19 came first, done last", x.home(0), 0);
        x.arrive(0, 1, 0, 4, 0);
        x.arrive(0, 0, 0, 4, 0);
        x.arrive(0, 1, 0, 4, 0);
        x.advance(4);
        C.due("P19 in one unit the last of the requests", x.home(0), 1);
    }
}
