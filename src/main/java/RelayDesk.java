/** A relay that hands requests on to servers; see README.md. */
public final class RelayDesk {
    public static final int REFUSED = -1, FULL = -2, LIMITED = -3;

    private static final int SERVERS = 6;
    private static final int CLIENTS = 6;
    private static final int ROUTES = 12;
    private static final int PLACES = 8;
    // KEPT and TIMES are powers of 2, so that a mask finds the slot even of a number that has wrapped around.
    private static final int KEPT = 32;
    private static final int TIMES = 64;
    private static final int LABELS = 4;
    private static final int PATHS = 4096;
    private static final int LATEST_TIME = 1000000000;
    private static final int CREDIT_BASE = 1000;
    private static final int FAILURES_BORNE = 3;
    private static final int NONE = -1;
    private static final int CLOSED = -1;

    // The outcomes DONE .. REJECTED are also the indices of their totals.
    private static final int QUEUED = 0;
    private static final int RUNNING = 1;
    private static final int DONE = 2;
    private static final int FAILED = 3;
    private static final int EXPIRED = 4;
    private static final int REJECTED = 5;

    private static final int TOTAL_CAME = 0;
    private static final int TOTAL_TOOK = 1;
    private static final int TOTAL_LIMITED = 6;
    private static final int TOTALS = 7;

    private static final int POLICY = 0;
    private static final int TIMEOUT = 1;
    private static final int RETRIES = 2;
    private static final int REST = 3;
    private static final int CHECK = 4;
    private static final int WAIT = 5;
    private static final int STAY = 6;
    private static final int SETTINGS = 7;

    private static final int TURNS = 0;
    private static final int LEAST = 1;

    private int now;
    private final int[] settings = new int[SETTINGS];
    private final long[] totals = new long[TOTALS];
    private final int[] tookUnits = new int[TIMES];

    private final int[] weightOf = new int[SERVERS];
    private final int[] slotsOf = new int[SERVERS];
    private final int[] paceOf = new int[SERVERS];
    private final boolean[] isBroken = new boolean[SERVERS];
    private final boolean[] isUp = new boolean[SERVERS];
    private final int[] shutTill = new int[SERVERS];
    private final int[] failures = new int[SERVERS];
    private final int[] credit = new int[SERVERS];
    private final int[] running = new int[SERVERS];
    private final int[] succeeded = new int[SERVERS];
    // Checks in a row with the same finding: above 0 broken, below 0 not broken, 0 not checked yet.
    private final int[] findings = new int[SERVERS];

    private int routeCount;
    private final int[] routePath = new int[ROUTES];
    private final int[] routeServers = new int[ROUTES];

    private final int[] capacityOf = new int[CLIENTS];
    private final int[] refillOf = new int[CLIENTS];
    private final int[] tokenCount = new int[CLIENTS];
    private final int[] homeServer = new int[CLIENTS];
    private final int[] homeSince = new int[CLIENTS];

    // What is known of a request stands in the slot that its number gives.
    private final int[] stateOf = new int[KEPT];
    private final int[] clientOf = new int[KEPT];
    private final int[] pathOf = new int[KEPT];
    private final int[] keyOf = new int[KEPT];
    private final int[] workOf = new int[KEPT];
    private final int[] rankOf = new int[KEPT];
    private final int[] cameAt = new int[KEPT];
    private final int[] endedAt = new int[KEPT];
    private final int[] serverOf = new int[KEPT];
    private final int[] attempts = new int[KEPT];
    private final int[] triedServers = new int[KEPT];
    private final int[] attemptEnd = new int[KEPT];
    private final boolean[] attemptTooLong = new boolean[KEPT];

    private int queueLength;
    private final int[] queue = new int[PLACES];

    public RelayDesk() {
        settings[POLICY] = TURNS;
        settings[TIMEOUT] = 100;
        settings[RETRIES] = 1;
        settings[REST] = 50;
        settings[CHECK] = 10;
        settings[WAIT] = 100;
        settings[STAY] = 0;
        for (int s = 0; s < SERVERS; s++) {
            slotsOf[s] = 1;
            paceOf[s] = 1;
            isUp[s] = true;
            shutTill[s] = CLOSED;
        }
        for (int c = 0; c < CLIENTS; c++) {
            capacityOf[c] = 5;
            refillOf[c] = 10;
            tokenCount[c] = 5;
            homeServer[c] = NONE;
        }
    }

    public boolean server(int s, int weight, int slots, int pace) {
        if (!isServer(s) || weight < 0 || weight > 9 || slots < 1 || slots > 8 || pace < 1 || pace > 10) {
            return false;
        }
        weightOf[s] = weight;
        slotsOf[s] = slots;
        paceOf[s] = pace;
        return true;
    }

    public int route(int path, int servers) {
        if (!isPath(path) || servers < 0 || servers >= 1 << SERVERS) {
            return REFUSED;
        }
        int r = findRoute(path);
        if (r == NONE) {
            if (routeCount >= ROUTES) {
                return FULL;
            }
            r = routeCount;
            routePath[r] = path;
            routeCount++;
        }
        routeServers[r] = servers;
        return routeCount;
    }

    public boolean unroute(int path) {
        int r = findRoute(path);
        if (r == NONE) {
            return false;
        }
        routeCount--;
        routePath[r] = routePath[routeCount];
        routeServers[r] = routeServers[routeCount];
        return true;
    }

    public boolean damage(int s, boolean broken) {
        if (!isServer(s)) {
            return false;
        }
        isBroken[s] = broken;
        return true;
    }

    public boolean set(int setting, int v) {
        if (setting < 0 || setting >= SETTINGS) {
            return false;
        }
        int least = leastValue(setting);
        int greatest = greatestValue(setting);
        if (v < least || v > greatest) {
            return false;
        }
        settings[setting] = v;
        return true;
    }

    public boolean limit(int client, int capacity, int refill) {
        if (!isClient(client) || capacity < 0 || capacity > 20 || refill < 1 || refill > 100) {
            return false;
        }
        capacityOf[client] = capacity;
        refillOf[client] = refill;
        tokenCount[client] = capacity;
        return true;
    }

    public int advance(int n) {
        if (n < 0 || n > 5000 || n > LATEST_TIME - now) {
            return REFUSED;
        }
        long endedBefore = totals[DONE] + totals[FAILED] + totals[EXPIRED];
        for (int unit = 0; unit < n; unit++) {
            now++;
            bringTokens();
            endAttempts();
            if (now % settings[CHECK] == 0) {
                checkServers();
            }
            expireQueued();
            startQueued();
        }
        return (int) (totals[DONE] + totals[FAILED] + totals[EXPIRED] - endedBefore);
    }

    public int arrive(int client, int path, int key, int work, int rank) {
        if (!isClient(client) || !isPath(path) || key < 0 || key > 255
                || work < 1 || work > 100 || rank < 0 || rank > 3) {
            return REFUSED;
        }
        int request = (int) totals[TOTAL_CAME];
        int q = request & KEPT - 1;
        if (totals[TOTAL_CAME] >= KEPT && stateOf[q] <= RUNNING) {
            return FULL;
        }
        if (tokenCount[client] == 0) {
            totals[TOTAL_LIMITED]++;
            return LIMITED;
        }
        tokenCount[client]--;
        totals[TOTAL_CAME]++;
        enter(q, client, path, key, work, rank);
        int r = routeOf(path);
        if (r == NONE) {
            finish(q, REJECTED);
        } else if (!attempt(q)) {
            enqueue(request);
        }
        return request;
    }

    public int time() {
        return now;
    }

    public int state(int request) {
        if (!isKept(request)) {
            return REFUSED;
        }
        return stateOf[request & KEPT - 1];
    }

    public int about(int request, int what) {
        if (!isKept(request)) {
            return REFUSED - 1;
        }
        int q = request & KEPT - 1;
        switch (what) {
            case 0: return serverOf[q];
            case 1: return attempts[q];
            case 2: return cameAt[q];
            case 3: return endedAt[q];
            default: return REFUSED - 1;
        }
    }

    public int at(int s, int what) {
        if (!isServer(s)) {
            return REFUSED;
        }
        switch (what) {
            case 0: return running[s];
            case 1: return isUp[s] ? 1 : 0;
            case 2: return shutTill[s] == CLOSED ? 0 : shutTill[s] > now ? 1 : 2;
            case 3: return failures[s];
            case 4: return succeeded[s];
            case 5: return credit[s] + CREDIT_BASE;
            default: return REFUSED;
        }
    }

    public int tokens(int client) {
        return isClient(client) ? tokenCount[client] : REFUSED;
    }

    public int queued(int k) {
        if (k == -1) {
            return queueLength;
        }
        if (k < 0 || k >= queueLength) {
            return REFUSED;
        }
        return queue[k];
    }

    public long total(int what) {
        if (what < 0 || what >= TOTALS) {
            return REFUSED;
        }
        return totals[what];
    }

    public int took(int k) {
        int count = totals[DONE] < TIMES ? (int) totals[DONE] : TIMES;
        if (k == -1) {
            return count;
        }
        if (k < 0 || k >= count) {
            return REFUSED;
        }
        for (int i = 0; i < count; i++) {
            int before = 0;
            for (int j = 0; j < count; j++) {
                if (tookUnits[j] < tookUnits[i] || tookUnits[j] == tookUnits[i] && j < i) {
                    before++;
                }
            }
            if (before == k) {
                return tookUnits[i];
            }
        }
        return REFUSED;
    }

    public int home(int client) {
        return isClient(client) ? homeServer[client] : REFUSED;
    }

    private static boolean isServer(int s) {
        return s >= 0 && s < SERVERS;
    }

    private static boolean isClient(int client) {
        return client >= 0 && client < CLIENTS;
    }

    private static boolean isPath(int path) {
        if (path < 0 || path >= PATHS) {
            return false;
        }
        int rest = path;
        for (int label = 0; label < LABELS; label++) {
            if (rest != 0 && (rest & 7) == 0) {
                return false;
            }
            rest >>= 3;
        }
        return true;
    }

    private boolean isKept(int request) {
        return request >= 0 && request < totals[TOTAL_CAME] && request >= totals[TOTAL_CAME] - KEPT;
    }

    private static int leastValue(int setting) {
        return setting == POLICY || setting == RETRIES || setting == STAY ? 0 : 1;
    }

    private static int greatestValue(int setting) {
        switch (setting) {
            case POLICY: return 2;
            case RETRIES: return 3;
            case CHECK: return 100;
            default: return 1000;
        }
    }

    private int findRoute(int path) {
        for (int r = 0; r < routeCount; r++) {
            if (routePath[r] == path) {
                return r;
            }
        }
        return NONE;
    }

    private int routeOf(int path) {
        int prefix = path;
        for (int cut = 0; cut <= LABELS; cut++) {
            int r = findRoute(prefix);
            if (r != NONE) {
                return r;
            }
            prefix >>= 3;
        }
        return NONE;
    }

    private void enter(int q, int client, int path, int key, int work, int rank) {
        stateOf[q] = QUEUED;
        clientOf[q] = client;
        pathOf[q] = path;
        keyOf[q] = key;
        workOf[q] = work;
        rankOf[q] = rank;
        cameAt[q] = now;
        endedAt[q] = NONE;
        serverOf[q] = NONE;
        attempts[q] = 0;
        triedServers[q] = 0;
    }

    private void bringTokens() {
        for (int c = 0; c < CLIENTS; c++) {
            if (now % refillOf[c] == 0 && tokenCount[c] < capacityOf[c]) {
                tokenCount[c]++;
            }
        }
    }

    private void endAttempts() {
        int oldest = (int) totals[TOTAL_CAME] - KEPT;
        for (int i = 0; i < KEPT; i++) {
            int q = oldest + i & KEPT - 1;
            if (stateOf[q] == RUNNING && attemptEnd[q] == now) {
                int s = serverOf[q];
                running[s]--;
                if (attemptTooLong[q] || isBroken[s]) {
                    fail(q);
                } else {
                    succeed(q);
                }
            }
        }
    }

    private void succeed(int q) {
        int s = serverOf[q];
        shutTill[s] = CLOSED;
        failures[s] = 0;
        succeeded[s]++;
        homeServer[clientOf[q]] = s;
        homeSince[clientOf[q]] = now;
        int units = now - cameAt[q];
        tookUnits[(int) totals[DONE] & TIMES - 1] = units;
        totals[TOTAL_TOOK] += units;
        finish(q, DONE);
    }

    private void fail(int q) {
        int s = serverOf[q];
        failures[s]++;
        if (shutTill[s] != CLOSED || failures[s] >= FAILURES_BORNE) {
            shutTill[s] = now + settings[REST];
        }
        if (attempts[q] > settings[RETRIES] || !attempt(q)) {
            finish(q, FAILED);
        }
    }

    private void finish(int q, int outcome) {
        stateOf[q] = outcome;
        endedAt[q] = now;
        totals[outcome]++;
    }

    private void checkServers() {
        for (int s = 0; s < SERVERS; s++) {
            if (isBroken[s]) {
                findings[s] = findings[s] > 0 ? findings[s] + 1 : 1;
            } else {
                findings[s] = findings[s] < 0 ? findings[s] - 1 : -1;
            }
            if (findings[s] >= 2) {
                isUp[s] = false;
            } else if (findings[s] <= -2) {
                isUp[s] = true;
            }
        }
    }

    private void expireQueued() {
        int left = 0;
        for (int k = 0; k < queueLength; k++) {
            int q = queue[k] & KEPT - 1;
            if (now - cameAt[q] >= settings[WAIT]) {
                finish(q, EXPIRED);
            } else {
                queue[left] = queue[k];
                left++;
            }
        }
        queueLength = left;
    }

    private void startQueued() {
        int left = 0;
        for (int k = 0; k < queueLength; k++) {
            int q = queue[k] & KEPT - 1;
            if (!attempt(q)) {
                queue[left] = queue[k];
                left++;
            }
        }
        queueLength = left;
    }

    private void enqueue(int request) {
        int q = request & KEPT - 1;
        if (queueLength >= PLACES) {
            int last = queue[PLACES - 1] & KEPT - 1;
            if (rankOf[last] >= rankOf[q]) {
                finish(q, REJECTED);
                return;
            }
            finish(last, REJECTED);
            queueLength = PLACES - 1;
        }
        int place = queueLength;
        for (int k = queueLength - 1; k >= 0; k--) {
            if (rankOf[queue[k] & KEPT - 1] >= rankOf[q]) {
                break;
            }
            queue[k + 1] = queue[k];
            place = k;
        }
        queue[place] = request;
        queueLength++;
    }

    /** Starts an attempt at a server that is ready for the request, if there is one. */
    private boolean attempt(int q) {
        int r = routeOf(pathOf[q]);
        if (r == NONE) {
            return false;
        }
        int ready = readyAmong(routeServers[r], q);
        int s = choose(ready, q);
        if (s == NONE) {
            return false;
        }
        // How the attempt will run is settled here, as later changes of pace and TIMEOUT are for what comes.
        int units = workOf[q] * paceOf[s];
        attemptTooLong[q] = units > settings[TIMEOUT];
        attemptEnd[q] = now + (attemptTooLong[q] ? settings[TIMEOUT] : units);
        stateOf[q] = RUNNING;
        serverOf[q] = s;
        attempts[q]++;
        triedServers[q] |= 1 << s;
        running[s]++;
        return true;
    }

    private int readyAmong(int servers, int q) {
        int ready = 0;
        for (int s = 0; s < SERVERS; s++) {
            if ((servers >> s & 1) != 0 && (triedServers[q] >> s & 1) == 0 && isOpen(s)) {
                ready |= 1 << s;
            }
        }
        return ready;
    }

    private boolean isOpen(int s) {
        if (weightOf[s] == 0 || !isUp[s] || running[s] >= slotsOf[s]) {
            return false;
        }
        return shutTill[s] == CLOSED || shutTill[s] <= now && running[s] == 0;
    }

    /** One of the servers that are ready, or NONE if none is. */
    private int choose(int ready, int q) {
        int client = clientOf[q];
        int h = homeServer[client];
        if (h != NONE && (ready >> h & 1) != 0
                && settings[STAY] != 0 && now - homeSince[client] <= settings[STAY]) {
            return h;
        }
        switch (settings[POLICY]) {
            case TURNS: return chooseByTurns(ready);
            case LEAST: return chooseLeast(ready);
            default: return chooseOnRing(ready, keyOf[q]);
        }
    }

    private int chooseByTurns(int ready) {
        int chosen = NONE;
        int sum = 0;
        for (int s = 0; s < SERVERS; s++) {
            if ((ready >> s & 1) != 0) {
                credit[s] += weightOf[s];
                sum += weightOf[s];
                if (chosen == NONE || credit[s] > credit[chosen]) {
                    chosen = s;
                }
            }
        }
        if (chosen != NONE) {
            credit[chosen] -= sum;
        }
        return chosen;
    }

    private int chooseLeast(int ready) {
        int chosen = NONE;
        for (int s = 0; s < SERVERS; s++) {
            // Quotients are compared crosswise: a division would round them.
            if ((ready >> s & 1) != 0
                    && (chosen == NONE || running[s] * weightOf[chosen] < running[chosen] * weightOf[s])) {
                chosen = s;
            }
        }
        return chosen;
    }

    private int chooseOnRing(int ready, int key) {
        int chosen = NONE;
        int nearest = 256;
        for (int s = 0; s < SERVERS; s++) {
            if ((ready >> s & 1) != 0) {
                for (int j = 0; j < weightOf[s]; j++) {
                    int point = (s * 37 + j * 101 + 17) * 59;
                    int distance = point - key & 255;
                    if (distance < nearest) {
                        nearest = distance;
                        chosen = s;
                    }
                }
            }
        }
        return chosen;
    }
}
