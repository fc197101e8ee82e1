/** When a server is ready, and which one is chosen: the three policies and the home. */
public final class ChoosingTest {
    private static final Checks C = new Checks();

    public static void main(String[] args) {
        slots();
        fewerSlotsThanRunning();
        turns();
        turnsAmongReadyOnly();
        turnsOfEqualCredit();
        least();
        leastIsNotRounded();
        leastAmongReadyOnly();
        ring();
        ringGoesAllRound();
        policiesFollowOneAnother();
        ringAmongReadyOnly();
        ringOfSharedPoints();
        everyPointOfTheRing();
        home();
        homeLeavesCredits();
        homeNotReady();
        stayIsLongEnough();
        C.end();
    }

    private static void slots() {
        RelayDesk x = Checks.desk(2);
        x.server(0, 1, 8, 1);
        x.server(1, 1, 2, 1);
        for (int k = 0; k < 3; k++) {
            x.arrive(0, 0, 0, 5, 0);
        }
        C.due("as many as slots", x.at(1, 0), 2);
        C.due("the route does not have server 0", x.at(0, 0), 0);
        C.due("the third is queued", x.state(2), 0);
        x.server(1, 1, 3, 1);
        x.advance(1);
        C.due("another slot", x.state(2), 1);
    }

    private static void fewerSlotsThanRunning() {
        RelayDesk x = Checks.desk(1);
        x.server(0, 1, 3, 1);
        x.arrive(0, 0, 0, 5, 0);
        x.arrive(0, 0, 0, 6, 0);
        x.arrive(0, 0, 0, 7, 0);
        x.server(0, 1, 1, 1);
        x.arrive(0, 0, 0, 7, 0);
        x.advance(6);
        C.due("one running, one slot", x.state(3), 0);
        x.advance(1);
        C.due("none running", x.state(3), 1);
    }

    private static void turns() {
        RelayDesk x = Checks.desk(7);
        x.server(0, 5, 8, 1);
        x.server(1, 1, 8, 1);
        x.server(2, 1, 8, 1);
        int[] servers = {0, 0, 1, 0, 2, 0, 0};
        int[][] credits = {{998, 1001, 1001}, {996, 1002, 1002}, {1001, 996, 1003}, {999, 997, 1004},
            {1004, 998, 998}, {1002, 999, 999}, {1000, 1000, 1000}};
        for (int k = 0; k < 7; k++) {
            x.arrive(0, 0, 0, 1, 0);
            C.due("turn " + k, x.about(k, 0), servers[k]);
            for (int s = 0; s < 3; s++) {
                C.due("credit of " + s + " after turn " + k, x.at(s, 5), credits[k][s]);
            }
        }
    }

    private static void turnsAmongReadyOnly() {
        RelayDesk x = Checks.desk(7);
        x.server(0, 5, 1, 1);
        x.server(1, 3, 8, 1);
        x.server(2, 0, 8, 1);
        x.arrive(0, 0, 0, 9, 0);
        C.due("first", x.about(0, 0), 0);
        C.due("credit 0", x.at(0, 5), 997);
        C.due("credit 1", x.at(1, 5), 1003);
        x.arrive(0, 0, 0, 9, 0);
        C.due("server 0 has no slot", x.about(1, 0), 1);
        C.due("the credit of one that is not ready stays", x.at(0, 5), 997);
        C.due("it grows by 3 and becomes less by 3", x.at(1, 5), 1003);
        C.due("no weight, no credit", x.at(2, 5), 1000);
        x.server(0, 1, 8, 1);
        C.due("credits outlive other weights", x.at(0, 5), 997);
    }

    private static void turnsOfEqualCredit() {
        RelayDesk x = Checks.desk(48);
        x.server(4, 2, 8, 1);
        x.server(5, 2, 8, 1);
        int[] servers = {4, 5, 4, 5};
        for (int k = 0; k < 4; k++) {
            x.arrive(0, 0, 0, 1, 0);
            C.due("of several the least number " + k, x.about(k, 0), servers[k]);
        }
    }

    private static void least() {
        RelayDesk x = Checks.desk(7);
        x.set(0, 1);
        x.server(0, 1, 8, 1);
        x.server(1, 2, 8, 1);
        x.server(2, 1, 8, 1);
        int[] servers = {0, 1, 2, 1, 0, 1, 2, 1};
        for (int k = 0; k < 8; k++) {
            x.arrive(0, 0, 0, 9, 0);
            C.due("least " + k, x.about(k, 0), servers[k]);
        }
        C.due("no credits", x.at(0, 5), 1000);
    }

    private static void leastIsNotRounded() {
        RelayDesk x = Checks.desk(3);
        x.set(0, 1);
        x.server(0, 3, 8, 1);
        x.server(1, 9, 8, 1);
        int[] servers = {0, 1, 1, 1, 0, 1, 1, 1};
        for (int k = 0; k < 8; k++) {
            x.arrive(0, 0, 0, 9, 0);
            C.due("quotient " + k, x.about(k, 0), servers[k]);
        }
    }

    private static void leastAmongReadyOnly() {
        RelayDesk x = Checks.desk(6);
        x.set(0, 1);
        x.server(0, 9, 8, 1);
        x.server(1, 9, 1, 1);
        x.server(2, 1, 8, 1);
        int[] servers = {1, 2, 2};
        for (int k = 0; k < 3; k++) {
            x.arrive(0, 0, 0, 9, 0);
            C.due("least of those that are ready " + k, x.about(k, 0), servers[k]);
        }
    }

    private static void ring() {
        RelayDesk x = Checks.desk(63);
        x.set(0, 2);
        for (int s = 0; s < 6; s++) {
            x.server(s, 1, 8, 1);
        }
        // Points: 0 at 235, 1 at 114, 2 at 249, 3 at 128, 4 at 7, 5 at 142.
        int[] keys = {0, 7, 8, 114, 115, 128, 129, 142, 143, 235, 236, 249, 250, 255};
        int[] servers = {4, 4, 1, 1, 3, 3, 5, 5, 0, 0, 2, 2, 4, 4};
        for (int k = 0; k < keys.length; k++) {
            x.arrive(0, 0, keys[k], 1, 0);
            C.due("ring, key " + keys[k], x.about(k, 0), servers[k]);
        }
        C.due("no credits", x.at(0, 5), 1000);
        RelayDesk y = Checks.desk(3);
        y.set(0, 2);
        y.server(0, 2, 8, 1);
        y.server(1, 3, 8, 1);
        // Points: 0 at 235, 50; 1 at 114, 185, 0.
        int[] moreKeys = {0, 1, 50, 51, 114, 115, 185, 186, 235, 236};
        int[] moreServers = {1, 0, 0, 1, 1, 1, 1, 0, 0, 1};
        for (int k = 0; k < moreKeys.length; k++) {
            y.arrive(0, 0, moreKeys[k], 1, 0);
            C.due("ring with more points, key " + moreKeys[k], y.about(k, 0), moreServers[k]);
        }
    }

    private static void ringGoesAllRound() {
        RelayDesk x = Checks.desk(1);
        x.set(0, 2);
        x.server(0, 1, 8, 1);
        x.arrive(0, 0, 236, 1, 0);
        C.due("the only point is the last one", x.about(0, 0), 0);
        x.arrive(0, 0, 235, 1, 0);
        C.due("the only point is the key", x.about(1, 0), 0);
    }

    private static void policiesFollowOneAnother() {
        RelayDesk x = Checks.desk(3);
        x.server(0, 1, 8, 1);
        x.server(1, 2, 8, 1);
        int[] policies = {2, 0, 1, 0, 2, 0};
        int[] servers = {0, 1, 1, 0, 0, 1};
        for (int k = 0; k < 6; k++) {
            x.set(0, policies[k]);
            x.arrive(0, 0, 200, 9, 0);
            C.due("policy " + policies[k], x.about(k, 0), servers[k]);
        }
    }

    private static void ringAmongReadyOnly() {
        RelayDesk x = Checks.desk(3);
        x.set(0, 2);
        x.server(0, 1, 8, 1);
        x.server(1, 1, 1, 1);
        x.arrive(0, 0, 100, 5, 0);
        x.arrive(0, 0, 100, 5, 0);
        C.due("first point", x.about(0, 0), 1);
        C.due("first point of a ready one", x.about(1, 0), 0);
    }

    /** Servers 0 and 4 share points: (0 * 37 + 4 * 101 + 17) * 59 and (4 * 37 + 17) * 59 are 7 modulo 256. */
    private static void ringOfSharedPoints() {
        RelayDesk x = Checks.desk(17);
        x.set(0, 2);
        x.server(0, 5, 1, 1);
        x.server(4, 1, 8, 1);
        x.arrive(0, 0, 7, 9, 0);
        C.due("of several there the least server", x.about(0, 0), 0);
        x.arrive(0, 0, 7, 9, 0);
        C.due("of several the ready one", x.about(1, 0), 4);
        x.server(0, 4, 8, 1);
        x.arrive(0, 0, 7, 9, 0);
        C.due("as many points as the weight", x.about(2, 0), 4);
    }

    /** With every server of weight 9 each point belongs to the least server that has it. */
    private static void everyPointOfTheRing() {
        for (int s = 0; s < 6; s++) {
            RelayDesk x = Checks.desk(63);
            x.set(0, 2);
            for (int t = 0; t < 6; t++) {
                x.server(t, 9, 8, 1);
            }
            for (int j = 0; j < 9; j++) {
                int key = (s * 37 + j * 101 + 17) * 59 % 256;
                int owner = s;
                for (int t = 5; t >= 0; t--) {
                    for (int i = 0; i < 9; i++) {
                        owner = (t * 37 + i * 101 + 17) * 59 % 256 == key ? t : owner;
                    }
                }
                x.arrive(0, 0, key, 1, 0);
                C.due("point " + j + " of server " + s, x.about(j, 0), owner);
                x.advance(1);
            }
        }
    }

    /** Client 0 has its home at server 1 from time 2 on. */
    private static RelayDesk deskWithHome() {
        RelayDesk x = Checks.desk(2);
        x.server(0, 9, 8, 1);
        x.server(1, 1, 2, 1);
        x.arrive(0, 0, 0, 2, 0);
        x.advance(2);
        x.route(0, 3);
        return x;
    }

    private static void home() {
        RelayDesk x = deskWithHome();
        C.due("P18 home", x.home(0), 1);
        x.arrive(0, 0, 0, 1, 0);
        C.due("STAY is 0 at first", x.about(1, 0), 0);
        x.set(6, 5);
        x.arrive(0, 0, 0, 9, 0);
        C.due("the home", x.about(2, 0), 1);
        x.arrive(1, 0, 0, 9, 0);
        C.due("another client has no home", x.about(3, 0), 0);
        x.advance(1);
        C.due("home moves with what is done", x.home(0), 0);
    }

    private static void homeLeavesCredits() {
        RelayDesk x = deskWithHome();
        x.set(6, 5);
        x.arrive(0, 0, 0, 9, 0);
        C.due("at home", x.about(1, 0), 1);
        C.due("credits stay", x.at(0, 5), 1000);
        C.due("credits stay", x.at(1, 5), 1000);
    }

    private static void homeNotReady() {
        RelayDesk x = deskWithHome();
        x.set(6, 1000);
        x.arrive(0, 0, 0, 9, 0);
        x.arrive(0, 0, 0, 9, 0);
        x.arrive(0, 0, 0, 9, 0);
        C.due("at home", x.about(2, 0), 1);
        C.due("no slot at home", x.about(3, 0), 0);
        x.advance(9);
        C.due("in one unit the latest request", x.home(0), 0);
        x.route(0, 2);
        x.arrive(0, 0, 0, 9, 0);
        C.due("the route does not have the home", x.about(4, 0), 1);
    }

    private static void stayIsLongEnough() {
        for (int late = 0; late < 2; late++) {
            RelayDesk x = deskWithHome();
            x.set(6, 5);
            x.advance(5 + late);
            x.arrive(0, 0, 0, 1, 0);
            C.due("home " + (5 + late) + " units ago", x.about(1, 0), 1 - late);
        }
        RelayDesk y = deskWithHome();
        y.set(0, 2);
        y.set(6, 1);
        y.arrive(0, 0, 200, 1, 0);
        C.due("home before the ring", y.about(1, 0), 1);
        y.set(6, 0);
        y.arrive(0, 0, 200, 1, 0);
        C.due("the ring without STAY", y.about(2, 0), 0);
    }
}
