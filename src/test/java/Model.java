import java.util.ArrayList;
import java.util.Comparator;
import java.util.HashMap;
import java.util.HashSet;
import java.util.List;
import java.util.Map;
import java.util.Set;
import java.util.TreeSet;

/** The document written down a second time, with objects and lists, for ModelTest to compare with. */
final class Model {
    static final class Server {
        int number, weight, slots = 1, pace = 1, failures, credit, succeeded;
        boolean broken, up = true;
        Integer shutTill;
        final List<Boolean> checks = new ArrayList<>();
    }

    static final class Request {
        int number, client, key, work, rank, came, state, ended = -1, endOfAttempt;
        boolean tooLong;
        String path;
        final List<Server> attempts = new ArrayList<>();
    }

    static final class Client {
        int capacity = 5, refill = 10, tokens = 5, doneAt;
        Server home;
    }

    int time;
    long limited;
    final int[] settings = {0, 100, 1, 50, 10, 100, 0};
    final List<Server> servers = new ArrayList<>();
    final List<Client> clients = new ArrayList<>();
    final List<Request> requests = new ArrayList<>();
    final List<Request> done = new ArrayList<>();
    final Map<String, Set<Integer>> routes = new HashMap<>();

    Model() {
        for (int k = 0; k < 6; k++) {
            Server s = new Server();
            s.number = k;
            servers.add(s);
            clients.add(new Client());
        }
    }

    private static boolean in(int v, int least, int most) {
        return least <= v && v <= most;
    }

    private static String labels(int path) {
        if (path < 0) {
            return null;
        }
        String row = path == 0 ? "" : Integer.toOctalString(path);
        return row.length() > 4 || row.contains("0") ? null : row;
    }

    boolean server(int s, int weight, int slots, int pace) {
        if (!in(s, 0, 5) || !in(weight, 0, 9) || !in(slots, 1, 8) || !in(pace, 1, 10)) {
            return false;
        }
        Server it = servers.get(s);
        it.weight = weight;
        it.slots = slots;
        it.pace = pace;
        return true;
    }

    int route(int path, int mask) {
        String row = labels(path);
        if (row == null || !in(mask, 0, 63)) {
            return -1;
        }
        if (!routes.containsKey(row) && routes.size() == 12) {
            return -2;
        }
        Set<Integer> set = new HashSet<>();
        for (int s = 0; s < 6; s++) {
            if (mask / (int) Math.pow(2, s) % 2 == 1) {
                set.add(s);
            }
        }
        routes.put(row, set);
        return routes.size();
    }

    boolean unroute(int path) {
        String row = labels(path);
        return row != null && routes.remove(row) != null;
    }

    boolean damage(int s, boolean broken) {
        if (!in(s, 0, 5)) {
            return false;
        }
        servers.get(s).broken = broken;
        return true;
    }

    boolean set(int setting, int v) {
        int[] least = {0, 1, 0, 1, 1, 1, 0};
        int[] most = {2, 1000, 3, 1000, 100, 1000, 1000};
        if (!in(setting, 0, 6) || !in(v, least[setting], most[setting])) {
            return false;
        }
        settings[setting] = v;
        return true;
    }

    boolean limit(int client, int capacity, int refill) {
        if (!in(client, 0, 5) || !in(capacity, 0, 20) || !in(refill, 1, 100)) {
            return false;
        }
        Client c = clients.get(client);
        c.capacity = capacity;
        c.refill = refill;
        c.tokens = capacity;
        return true;
    }

    private int count(int state) {
        int n = 0;
        for (Request r : requests) {
            n += r.state == state ? 1 : 0;
        }
        return n;
    }

    int advance(int n) {
        if (!in(n, 0, 5000) || (long) time + n > 1000000000L) {
            return -1;
        }
        int before = count(2) + count(3) + count(4);
        for (int k = 0; k < n; k++) {
            unit();
        }
        return count(2) + count(3) + count(4) - before;
    }

    private void unit() {
        time++;
        for (Client c : clients) {
            if (time % c.refill == 0) {
                c.tokens = Math.min(c.tokens + 1, Math.max(c.tokens, c.capacity));
            }
        }
        for (Request r : requests) {
            if (r.state == 1 && r.endOfAttempt == time) {
                endAttempt(r);
            }
        }
        if (time % settings[4] == 0) {
            for (Server s : servers) {
                s.checks.add(s.broken);
                int n = s.checks.size();
                if (n >= 2 && s.checks.get(n - 1).equals(s.checks.get(n - 2))) {
                    s.up = !s.broken;
                }
            }
        }
        for (Request r : queue()) {
            if (r.came + settings[5] <= time) {
                r.state = 4;
                r.ended = time;
            }
        }
        for (Request r : queue()) {
            begin(r);
        }
    }

    private void endAttempt(Request r) {
        Server s = r.attempts.get(r.attempts.size() - 1);
        r.state = -1;
        if (!r.tooLong && !s.broken) {
            r.state = 2;
            r.ended = time;
            done.add(r);
            s.shutTill = null;
            s.failures = 0;
            s.succeeded++;
            Client c = clients.get(r.client);
            c.home = s;
            c.doneAt = time;
            return;
        }
        s.failures++;
        if (s.shutTill != null || s.failures >= 3) {
            s.shutTill = time + settings[3];
        }
        if (r.attempts.size() > settings[2] || !begin(r)) {
            r.state = 3;
            r.ended = time;
        }
    }

    private int running(Server s) {
        int n = 0;
        for (Request r : requests) {
            n += r.state == 1 && r.attempts.get(r.attempts.size() - 1) == s ? 1 : 0;
        }
        return n;
    }

    private Set<Integer> routeOf(String path) {
        for (int length = path.length(); length >= 0; length--) {
            Set<Integer> set = routes.get(path.substring(0, length));
            if (set != null) {
                return set;
            }
        }
        return null;
    }

    private List<Server> ready(Request r) {
        List<Server> list = new ArrayList<>();
        Set<Integer> route = routeOf(r.path);
        for (Server s : servers) {
            boolean breakerLets = s.shutTill == null || s.shutTill <= time && running(s) == 0;
            if (route != null && route.contains(s.number) && s.weight != 0 && s.up && running(s) < s.slots
                    && !r.attempts.contains(s) && breakerLets) {
                list.add(s);
            }
        }
        return list;
    }

    private boolean begin(Request r) {
        List<Server> ready = ready(r);
        if (ready.isEmpty()) {
            return false;
        }
        Server s = choose(r, ready);
        int units = r.work * s.pace;
        r.tooLong = units > settings[1];
        r.endOfAttempt = time + Math.min(units, settings[1]);
        r.attempts.add(s);
        r.state = 1;
        return true;
    }

    private Server choose(Request r, List<Server> ready) {
        Client c = clients.get(r.client);
        if (c.home != null && ready.contains(c.home) && settings[6] > 0 && c.doneAt + settings[6] >= time) {
            return c.home;
        }
        if (settings[0] == 0) {
            int sum = 0;
            for (Server s : ready) {
                s.credit += s.weight;
                sum += s.weight;
            }
            Server first = ready.stream().max(Comparator.<Server>comparingInt(s -> s.credit)
                .thenComparing(s -> -s.number)).get();
            first.credit -= sum;
            return first;
        }
        if (settings[0] == 1) {
            // 2520 is a multiple of every weight.
            return ready.stream().min(Comparator.<Server>comparingInt(s -> running(s) * (2520 / s.weight))
                .thenComparing(s -> s.number)).get();
        }
        for (int step = 0; step < 256; step++) {
            int place = (r.key + step) % 256;
            for (Server s : ready) {
                for (int j = 0; j <= s.weight - 1; j++) {
                    if ((s.number * 37 + j * 101 + 17) * 59 % 256 == place) {
                        return s;
                    }
                }
            }
        }
        throw new IllegalStateException("a ready server has a point");
    }

    private List<Request> queue() {
        List<Request> list = new ArrayList<>();
        for (int rank = 3; rank >= 0; rank--) {
            for (Request r : requests) {
                if (r.state == 0 && r.rank == rank) {
                    list.add(r);
                }
            }
        }
        return list;
    }

    int arrive(int client, int path, int key, int work, int rank) {
        String row = labels(path);
        if (!in(client, 0, 5) || row == null || !in(key, 0, 255) || !in(work, 1, 100) || !in(rank, 0, 3)) {
            return -1;
        }
        int number = requests.size();
        if (number >= 32 && in(requests.get(number - 32).state, 0, 1)) {
            return -2;
        }
        Client c = clients.get(client);
        if (c.tokens == 0) {
            limited++;
            return -3;
        }
        c.tokens--;
        List<Request> queue = queue();
        Request r = new Request();
        r.number = number;
        r.client = client;
        r.path = row;
        r.key = key;
        r.work = work;
        r.rank = rank;
        r.came = time;
        requests.add(r);
        if (routeOf(row) == null) {
            reject(r);
        } else if (!begin(r) && queue.size() == 8) {
            Request last = queue.get(7);
            reject(last.rank < rank ? last : r);
        }
        return number;
    }

    private void reject(Request r) {
        r.state = 5;
        r.ended = time;
    }

    private Request kept(int request) {
        return in(request, Math.max(0, requests.size() - 32), requests.size() - 1) ? requests.get(request) : null;
    }

    int state(int request) {
        Request r = kept(request);
        return r == null ? -1 : r.state;
    }

    int about(int request, int what) {
        Request r = kept(request);
        if (r == null || !in(what, 0, 3)) {
            return -2;
        }
        int n = r.attempts.size();
        int[] answers = {n == 0 ? -1 : r.attempts.get(n - 1).number, n, r.came, r.ended};
        return answers[what];
    }

    int at(int s, int what) {
        if (!in(s, 0, 5) || !in(what, 0, 5)) {
            return -1;
        }
        Server it = servers.get(s);
        int breaker = it.shutTill == null ? 0 : time < it.shutTill ? 1 : 2;
        int[] answers = {running(it), it.up ? 1 : 0, breaker, it.failures, it.succeeded, it.credit + 1000};
        return answers[what];
    }

    int tokens(int client) {
        return in(client, 0, 5) ? clients.get(client).tokens : -1;
    }

    int queued(int k) {
        List<Request> queue = queue();
        return k == -1 ? queue.size() : in(k, 0, queue.size() - 1) ? queue.get(k).number : -1;
    }

    long total(int what) {
        if (!in(what, 0, 6)) {
            return -1;
        }
        long sum = 0;
        for (Request r : done) {
            sum += r.ended - r.came;
        }
        return what == 0 ? requests.size() : what == 1 ? sum : what == 6 ? limited : count(what);
    }

    int took(int k) {
        List<Integer> times = new ArrayList<>();
        for (Request r : done.subList(Math.max(0, done.size() - 64), done.size())) {
            times.add(r.ended - r.came);
        }
        times.sort(null);
        return k == -1 ? times.size() : in(k, 0, times.size() - 1) ? times.get(k) : -1;
    }

    int home(int client) {
        return in(client, 0, 5) && clients.get(client).home != null ? clients.get(client).home.number : -1;
    }

    /** States of requests that the model has come to, so that a test can see it went far enough. */
    Set<Integer> statesSeen() {
        Set<Integer> seen = new TreeSet<>();
        for (Request r : requests) {
            seen.add(r.state);
        }
        return seen;
    }
}
