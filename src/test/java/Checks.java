/** Counts the answers that are not as due; a test's main method makes one and ends with end(). */
final class Checks {
    private int wrong;

    void due(String call, long got, long want) {
        if (got != want) {
            wrong++;
            System.out.println(call + " answered " + got + ", due is " + want);
        }
    }

    void due(String call, boolean got, boolean want) {
        if (got != want) {
            wrong++;
            System.out.println(call + " answered " + got + ", due is " + want);
        }
    }

    void end() {
        System.out.println(wrong == 0 ? "all answers are as due" : wrong + " answers are not as due");
        if (wrong != 0) {
            System.exit(1);
        }
    }

    /** A desk whose empty path leads to the servers given and whose clients have 20 tokens that come back fast. */
    static RelayDesk desk(int servers) {
        RelayDesk x = new RelayDesk();
        x.route(0, servers);
        for (int client = 0; client < 6; client++) {
            x.limit(client, 20, 1);
        }
        return x;
    }
}
