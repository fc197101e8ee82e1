import java.util.ArrayList;
import java.util.List;
import java.util.Random;

/** Compares RelayDesk with Model over many runs of 512 calls; the seeds are fixed, so every run is the same. */
public final class ModelTest {
    private static final int RUNS = 1500;
    private static final int CALLS = 512;

    private final Random random;
    private final RelayDesk desk = new RelayDesk();
    private final Model model = new Model();
    private final List<String> calls = new ArrayList<>();
    private final int longest;
    private final int questions;
    private final boolean wild;

    private ModelTest(int seed) {
        random = new Random(seed);
        longest = new int[] {1, 3, 10, 40}[seed % 4];
        questions = new int[] {20, 50, 75}[seed % 3];
        wild = seed % 5 == 0;
    }

    public static void main(String[] args) {
        long[] reached = new long[7];
        for (int seed = 0; seed < RUNS; seed++) {
            ModelTest run = new ModelTest(seed);
            if (!run.agrees()) {
                System.out.println("seed " + seed + ", the last calls:");
                int from = Math.max(0, run.calls.size() - 40);
                run.calls.subList(from, run.calls.size()).forEach(System.out::println);
                System.exit(1);
            }
            for (int what = 0; what < 7; what++) {
                reached[what] += run.model.total(what);
            }
        }
        for (int what = 0; what < 7; what++) {
            if (reached[what] < RUNS / 10) {
                System.out.println("the runs hardly reach total(" + what + "): " + reached[what]);
                System.exit(1);
            }
        }
        System.out.println(RUNS + " runs agree with the model");
    }

    private boolean agrees() {
        int made = 0;
        for (int s = 0; s < 6 && made < CALLS; s++, made++) {
            if (!server(s)) {
                return false;
            }
        }
        if (!same("route(0, 63)", desk.route(0, 63), model.route(0, 63))) {
            return false;
        }
        made++;
        while (made < CALLS) {
            boolean ok = random.nextInt(100) < questions ? question() : change();
            if (!ok) {
                return false;
            }
            made++;
        }
        return true;
    }

    private boolean same(String call, long got, long want) {
        calls.add(call + " answered " + got + (got == want ? "" : ", the model " + want));
        return got == want;
    }

    private boolean same(String call, boolean got, boolean want) {
        return same(call, got ? 1 : 0, want ? 1 : 0);
    }

    /** A number from least to most, now and then one beside them. */
    private int pick(int least, int most) {
        int luck = random.nextInt(wild ? 40 : 400);
        if (luck == 0) {
            return least - 1;
        }
        if (luck == 1) {
            return most + 1;
        }
        if (luck == 2) {
            return random.nextInt();
        }
        return least + random.nextInt(most - least + 1);
    }

    private int path() {
        if (random.nextInt(30) == 0) {
            return pick(-1, 4200);
        }
        int path = 0;
        for (int n = random.nextInt(5); n > 0; n--) {
            path = path * 8 + 1 + random.nextInt(random.nextInt(4) == 0 ? 7 : 2);
        }
        return path;
    }

    private boolean server(int s) {
        int weight = pick(0, 9);
        int slots = random.nextBoolean() ? pick(1, 2) : pick(1, 8);
        int pace = random.nextBoolean() ? pick(1, 2) : pick(1, 10);
        return same("server(" + s + ", " + weight + ", " + slots + ", " + pace + ")",
            desk.server(s, weight, slots, pace), model.server(s, weight, slots, pace));
    }

    private boolean change() {
        int kind = random.nextInt(100);
        if (kind < 50) {
            int client = pick(0, 5), path = path(), key = pick(0, 255), rank = pick(0, 3);
            int work = random.nextInt(4) == 0 ? pick(1, 100) : pick(1, 8);
            return same("arrive(" + client + ", " + path + ", " + key + ", " + work + ", " + rank + ")",
                desk.arrive(client, path, key, work, rank), model.arrive(client, path, key, work, rank));
        }
        if (kind < 72) {
            int n = random.nextInt(60) == 0 ? pick(0, 300) : pick(0, longest);
            if (n > 300 && n <= 5000) {
                n = 300;
            }
            return same("advance(" + n + ")", desk.advance(n), model.advance(n));
        }
        if (kind < 78) {
            return server(pick(0, 5));
        }
        if (kind < 82) {
            int path = path(), servers = pick(0, 63);
            return same("route(" + path + ", " + servers + ")", desk.route(path, servers), model.route(path, servers));
        }
        if (kind < 84) {
            int path = path();
            return same("unroute(" + path + ")", desk.unroute(path), model.unroute(path));
        }
        if (kind < 90) {
            int s = pick(0, 5);
            boolean broken = random.nextInt(5) < 2;
            return same("damage(" + s + ", " + broken + ")", desk.damage(s, broken), model.damage(s, broken));
        }
        if (kind < 96) {
            int[] most = {2, 30, 3, 30, 12, 30, 30};
            int setting = pick(0, 6);
            int v = pick(0, setting < 0 || setting > 6 ? 9 : most[setting]);
            return same("set(" + setting + ", " + v + ")", desk.set(setting, v), model.set(setting, v));
        }
        int client = pick(0, 5), capacity = pick(0, 20), refill = random.nextBoolean() ? pick(1, 4) : pick(1, 100);
        return same("limit(" + client + ", " + capacity + ", " + refill + ")",
            desk.limit(client, capacity, refill), model.limit(client, capacity, refill));
    }

    private boolean question() {
        int latest = (int) model.total(0);
        int request = pick(latest - 33, latest);
        int k;
        int what;
        switch (random.nextInt(9)) {
            case 0:
                return same("time()", desk.time(), model.time);
            case 1:
                return same("state(" + request + ")", desk.state(request), model.state(request));
            case 2:
                what = pick(0, 3);
                return same("about(" + request + ", " + what + ")",
                    desk.about(request, what), model.about(request, what));
            case 3:
                k = pick(0, 5);
                what = pick(0, 5);
                return same("at(" + k + ", " + what + ")", desk.at(k, what), model.at(k, what));
            case 4:
                k = pick(0, 5);
                return same("tokens(" + k + ")", desk.tokens(k), model.tokens(k));
            case 5:
                k = pick(-1, 7);
                return same("queued(" + k + ")", desk.queued(k), model.queued(k));
            case 6:
                what = pick(0, 6);
                return same("total(" + what + ")", desk.total(what), model.total(what));
            case 7:
                k = random.nextBoolean() ? pick(-1, 5) : pick(-1, 64);
                return same("took(" + k + ")", desk.took(k), model.took(k));
            default:
                k = pick(0, 5);
                return same("home(" + k + ")", desk.home(k), model.home(k));
        }
    }
}
