import java.util.ArrayList;
import java.util.List;
import java.util.function.Consumer;

/** Counts the answers that are not as due; a test's main method makes one and ends with end(). */
final class Checks {
    private final List<String> sentences = new ArrayList<>();
    private int wrong;
    private int looked;

    /** The sentence of the document that the checks from here on belong to. */
    void says(String sentence) {
        everySentenceIsLookedAt();
        sentences.add(sentence);
        looked = 0;
    }

    List<String> sentences() {
        return sentences;
    }

    void due(String call, long got, long want) {
        looked++;
        if (got != want) {
            tell(call + " answered " + got + ", due is " + want);
        }
    }

    void due(String call, boolean got, boolean want) {
        looked++;
        if (got != want) {
            tell(call + " answered " + got + ", due is " + want);
        }
    }

    /** Two desks are made with the same calls, but one has further calls in between: they must answer alike. */
    void alike(String call, Consumer<RelayDesk> before, Consumer<RelayDesk> between, Consumer<RelayDesk> after) {
        looked++;
        RelayDesk with = new RelayDesk();
        before.accept(with);
        between.accept(with);
        after.accept(with);
        RelayDesk without = new RelayDesk();
        before.accept(without);
        after.accept(without);
        List<String> got = answers(with);
        List<String> want = answers(without);
        for (int k = 0; k < want.size(); k++) {
            if (k >= got.size() || !got.get(k).equals(want.get(k))) {
                tell(call + " changed something: " + (k < got.size() ? got.get(k) : "nothing")
                    + " instead of " + want.get(k));
                return;
            }
        }
    }

    void end() {
        everySentenceIsLookedAt();
        System.out.println(wrong == 0 ? "all answers are as due" : wrong + " answers are not as due");
        if (wrong != 0) {
            System.exit(1);
        }
    }

    private void tell(String what) {
        wrong++;
        System.out.println((sentences.isEmpty() ? "" : "'" + sentences.get(sentences.size() - 1) + "' ") + what);
    }

    private void everySentenceIsLookedAt() {
        if (!sentences.isEmpty() && looked == 0) {
            tell("is not looked at");
        }
    }

    /** What a desk answers to every question, but for total(6), which alone counts calls that change nothing. */
    private static List<String> answers(RelayDesk x) {
        List<String> all = new ArrayList<>();
        all.add("time() " + x.time());
        int came = (int) x.total(0);
        for (int request = Math.max(0, came - 32); request < came; request++) {
            all.add("state(" + request + ") " + x.state(request));
            for (int what = 0; what < 4; what++) {
                all.add("about(" + request + ", " + what + ") " + x.about(request, what));
            }
        }
        for (int k = 0; k < 6; k++) {
            for (int what = 0; what < 6; what++) {
                all.add("at(" + k + ", " + what + ") " + x.at(k, what));
            }
            all.add("tokens(" + k + ") " + x.tokens(k));
            all.add("home(" + k + ") " + x.home(k));
            all.add("total(" + k + ") " + x.total(k));
        }
        for (int k = x.queued(-1); k >= -1; k--) {
            all.add("queued(" + k + ") " + x.queued(k));
        }
        for (int k = x.took(-1); k >= -1; k--) {
            all.add("took(" + k + ") " + x.took(k));
        }
        return all;
    }

    /** A desk whose empty path leads to the servers given and whose clients have 20 tokens that come back fast. */
    static RelayDesk desk(int servers) {
        RelayDesk x = new RelayDesk();
        open(x, servers);
        return x;
    }

    static void open(RelayDesk x, int servers) {
        x.route(0, servers);
        for (int client = 0; client < 6; client++) {
            x.limit(client, 20, 1);
        }
    }
}
