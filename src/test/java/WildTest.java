import java.util.Random;

/**
 * No call may ever throw, for any arguments in any state (rule 7 of LANGUAGE.md), so also after the 512th call;
 * and what is answered stays within its bounds. The seeds are fixed, so every run is the same.
 */
public final class WildTest {
    private static final Checks C = new Checks();
    private static final int[] EDGES = {Integer.MIN_VALUE, Integer.MIN_VALUE + 1, -4097, -65, -33, -32, -2, -1, 0, 1, 2,
        3, 4, 5, 6, 7, 8, 9, 10, 11, 20, 21, 31, 32, 33, 63, 64, 65, 100, 101, 255, 256, 511, 512, 585, 1000, 1001,
        4095, 4096, 4681, 5000, 5001, 1000000000, Integer.MAX_VALUE - 1, Integer.MAX_VALUE};

    private final Random random;
    private final RelayDesk desk = new RelayDesk();
    private final int wildness;

    private WildTest(int seed) {
        random = new Random(seed);
        wildness = new int[] {100, 30, 5}[seed % 3];
    }

    public static void main(String[] args) {
        for (int seed = 0; seed < 150; seed++) {
            WildTest run = new WildTest(seed);
            for (int call = 0; call < 3000; call++) {
                run.call();
            }
            run.bounds("seed " + seed);
        }
        C.end();
    }

    private int pick(int least, int most) {
        return random.nextInt(100) < wildness ? EDGES[random.nextInt(EDGES.length)]
            : least + random.nextInt(most - least + 1);
    }

    private void call() {
        switch (random.nextInt(24)) {
            case 0: desk.server(pick(0, 5), pick(0, 9), pick(1, 8), pick(1, 10)); break;
            case 1: desk.route(pick(0, 7), pick(0, 63)); break;
            case 2: desk.unroute(pick(0, 63)); break;
            case 3: desk.damage(pick(0, 5), random.nextInt(3) == 0); break;
            case 4: desk.set(pick(0, 6), pick(0, 3)); break;
            case 5: case 6: desk.limit(pick(0, 5), pick(0, 20), pick(1, 100)); break;
            case 7: case 8: advance(); break;
            case 9: desk.time(); break;
            case 10: desk.state(pick(0, 3000)); break;
            case 11: desk.about(pick(0, 3000), pick(0, 3)); break;
            case 12: desk.at(pick(0, 5), pick(0, 5)); break;
            case 13: desk.tokens(pick(0, 5)); break;
            case 14: desk.queued(pick(-1, 8)); break;
            case 15: desk.total(pick(0, 6)); break;
            case 16: desk.took(pick(-1, 64)); break;
            case 17: desk.home(pick(0, 5)); break;
            default: desk.arrive(pick(0, 5), pick(0, 7), pick(0, 255), pick(1, 100), pick(0, 3));
        }
    }

    private void advance() {
        int n = pick(0, 9);
        if (n < 0 || n > 1001 || random.nextInt(9) == 0) {
            desk.advance(n);
        } else {
            desk.advance(n % 10);
        }
    }

    private void within(String what, long got, long least, long most) {
        C.due(what + " from " + least + " to " + most + ": " + got, got >= least && got <= most, true);
    }

    private void bounds(String seed) {
        long ended = 0;
        for (int what = 2; what <= 5; what++) {
            ended += desk.total(what);
        }
        int running = 0;
        for (int k = 0; k < 6; k++) {
            within(seed + " at(" + k + ", 0)", desk.at(k, 0), 0, 8);
            within(seed + " at(" + k + ", 1)", desk.at(k, 1), 0, 1);
            within(seed + " at(" + k + ", 2)", desk.at(k, 2), 0, 2);
            within(seed + " at(" + k + ", 3)", desk.at(k, 3), 0, 100000);
            within(seed + " tokens(" + k + ")", desk.tokens(k), 0, 20);
            within(seed + " home(" + k + ")", desk.home(k), -1, 5);
            running += desk.at(k, 0);
        }
        within(seed + " queued(-1)", desk.queued(-1), 0, 8);
        within(seed + " took(-1)", desk.took(-1), 0, 64);
        C.due(seed + " each request has ended, runs or is queued", ended + running + desk.queued(-1), desk.total(0));
        for (int k = 1; k < desk.took(-1); k++) {
            C.due(seed + " took is sorted at " + k, desk.took(k - 1) <= desk.took(k), true);
        }
    }
}
