import java.util.ArrayDeque;
import java.util.ArrayList;
import java.util.Deque;
import java.util.HashMap;
import java.util.LinkedHashMap;
import java.util.List;
import java.util.Map;

/** The document's words, done the slow way: what every call must answer. */
final class Model {
    static final int NONE = -1;

    private static final class Rule {
        final int mode;
        final int action;
        final Regex regex;
        final int places;

        Rule(int mode, int action, Regex regex, int places) {
            this.mode = mode;
            this.action = action;
            this.regex = regex;
            this.places = places;
        }
    }

    /** What is left of the rules of a mode behind a word. */
    private static final class Left {
        final boolean isBeginning;
        final Map<Integer, Regex> rules;

        Left(boolean isBeginning, Map<Integer, Regex> rules) {
            this.isBeginning = isBeginning;
            this.rules = rules;
        }

        String key() {
            StringBuilder key = new StringBuilder(isBeginning ? "beginning" : "");
            rules.forEach((rule, regex) -> key.append(rule).append(':').append(regex.key).append(' '));
            return key.toString();
        }

        Left after(int letter) {
            Map<Integer, Regex> then = new LinkedHashMap<>();
            rules.forEach((rule, regex) -> {
                Regex left = regex.after(letter);
                if (left != Regex.NOTHING) {
                    then.put(rule, left);
                }
            });
            return new Left(false, then);
        }

        boolean isLive() {
            return isBeginning || !rules.isEmpty();
        }

        boolean goesOn() {
            for (int letter = 0; letter < 6; letter++) {
                if (after(letter).isLive()) {
                    return true;
                }
            }
            return false;
        }

        int winner() {
            if (isBeginning) {
                return NONE;
            }
            return rules.entrySet().stream().filter(e -> e.getValue().matchesEmpty())
                    .mapToInt(Map.Entry::getKey).min().orElse(NONE);
        }
    }

    private static final class States {
        final List<int[]> next = new ArrayList<>();
        final List<Integer> winners = new ArrayList<>();
    }

    private final StringBuilder tape = new StringBuilder();
    private final List<Rule> rules = new ArrayList<>();
    private final States[] states = new States[3];

    private boolean isThere = false;
    private boolean isEnded = false;
    private int mode = 0;
    private int came = 0;
    private final Deque<Integer> kept = new ArrayDeque<>();
    private final List<Integer> pending = new ArrayList<>();
    private final Deque<int[]> tokens = new ArrayDeque<>();

    boolean type(long word, int n) {
        if (n < 1 || n > 8 || tape.length() + n > 24) {
            return false;
        }
        byte[] bytes = java.nio.ByteBuffer.allocate(8).putLong(word).array();
        for (int i = 8 - n; i < 8; i++) {
            tape.append((char) (bytes[i] & 255));
        }
        return true;
    }

    int rule(int ofMode, int action) {
        String text = tape.toString();
        tape.setLength(0);
        Rule made;
        try {
            made = new Rule(ofMode, action, Regex.of(text), Regex.placesOf(text));
        } catch (Regex.Wrong e) {
            return -2 - e.place;
        }
        int places = rules.stream().filter(r -> r.mode == ofMode).mapToInt(r -> r.places).sum();
        if (rules.size() == 16 || ofMode < 0 || ofMode > 2 || action < 0 || action > 4
                || places + made.places > 9 || isThere && !isEnded) {
            return NONE;
        }
        rules.add(made);
        states[ofMode] = null;
        return rules.size() - 1;
    }

    private Left beginning(int ofMode) {
        Map<Integer, Regex> all = new LinkedHashMap<>();
        for (int i = 0; i < rules.size(); i++) {
            if (rules.get(i).mode == ofMode) {
                all.put(i, rules.get(i).regex);
            }
        }
        return new Left(true, all);
    }

    private States statesOf(int ofMode) {
        if (states[ofMode] == null) {
            states[ofMode] = workOut(ofMode);
        }
        return states[ofMode];
    }

    private States workOut(int ofMode) {
        List<Left> found = new ArrayList<>();
        Map<String, Integer> numbers = new HashMap<>();
        List<int[]> next = new ArrayList<>();
        found.add(beginning(ofMode));
        numbers.put(found.get(0).key(), 0);
        for (int i = 0; i < found.size(); i++) {
            int[] row = new int[6];
            for (int letter = 0; letter < 6; letter++) {
                Left after = found.get(i).after(letter);
                row[letter] = NONE;
                if (after.isLive()) {
                    Integer number = numbers.get(after.key());
                    if (number == null) {
                        number = found.size();
                        numbers.put(after.key(), number);
                        found.add(after);
                    }
                    row[letter] = number;
                }
            }
            next.add(row);
        }
        return merged(found, next);
    }

    private static States merged(List<Left> found, List<int[]> next) {
        int[] group = new int[found.size()];
        for (int i = 0; i < group.length; i++) {
            group[i] = found.get(i).winner();
        }
        for (int round = 0; round <= group.length; round++) {
            Map<List<Integer>, Integer> groups = new LinkedHashMap<>();
            int[] finer = new int[group.length];
            for (int i = 0; i < group.length; i++) {
                List<Integer> looks = new ArrayList<>(List.of(group[i]));
                for (int to : next.get(i)) {
                    looks.add(to == NONE ? -9 : group[to]);
                }
                groups.putIfAbsent(looks, groups.size());
                finer[i] = groups.get(looks);
            }
            boolean isSame = java.util.Arrays.equals(finer, group);
            group = finer;
            if (isSame) {
                break;
            }
        }
        States made = new States();
        for (int i = 0; i < group.length; i++) {
            if (group[i] == made.next.size()) {
                int[] row = new int[6];
                for (int letter = 0; letter < 6; letter++) {
                    int to = next.get(i)[letter];
                    row[letter] = to == NONE ? NONE : group[to];
                }
                made.next.add(row);
                made.winners.add(found.get(i).winner());
            }
        }
        return made;
    }

    private static boolean isMode(int ofMode) {
        return ofMode >= 0 && ofMode < 3;
    }

    int states(int ofMode) {
        return isMode(ofMode) ? statesOf(ofMode).next.size() : NONE;
    }

    int next(int ofMode, int state, int letter) {
        boolean isThereOne = isMode(ofMode) && state >= 0 && state < states(ofMode) && letter >= 0 && letter < 6;
        return isThereOne ? statesOf(ofMode).next.get(state)[letter] : NONE;
    }

    int winner(int ofMode, int state) {
        boolean isThereOne = isMode(ofMode) && state >= 0 && state < states(ofMode);
        return isThereOne ? statesOf(ofMode).winners.get(state) : NONE;
    }

    /** Goes on letter by letter from all states with a winner, until no state is without one. */
    int distance(int ofMode) {
        if (!isMode(ofMode)) {
            return -2;
        }
        States all = statesOf(ofMode);
        int count = all.next.size();
        boolean[] at = new boolean[count];
        for (int i = 0; i < count; i++) {
            at[i] = all.winners.get(i) != NONE;
        }
        int greatest = 0;
        for (int n = 1; n <= count + 1; n++) {
            boolean[] then = new boolean[count];
            boolean goesOn = false;
            for (int i = 0; i < count; i++) {
                for (int to : all.next.get(i)) {
                    if (at[i] && to != NONE && all.winners.get(to) != NONE) {
                        greatest = n;
                    } else if (at[i] && to != NONE) {
                        then[to] = true;
                        goesOn = true;
                    }
                }
            }
            if (!goesOn) {
                return greatest;
            }
            at = then;
        }
        return NONE;
    }

    boolean never(int rule) {
        if (rule < 0 || rule >= rules.size()) {
            return false;
        }
        return !statesOf(rules.get(rule).mode).winners.contains(rule);
    }

    /** The word, found over all pairs of states; null if there is none. */
    private String difference(int one, int other) {
        if (!isMode(one) || !isMode(other)) {
            return null;
        }
        Map<Long, String> words = new HashMap<>();
        Deque<int[]> queue = new ArrayDeque<>();
        queue.add(new int[] {0, 0});
        words.put(0L, "");
        while (!queue.isEmpty()) {
            int[] pair = queue.poll();
            String word = words.get(pair[0] * 10000L + pair[1]);
            if (winner(one, pair[0]) == NONE != (winner(other, pair[1]) == NONE)) {
                return word;
            }
            for (int letter = 0; letter < 6; letter++) {
                int[] then = {next(one, pair[0], letter), next(other, pair[1], letter)};
                if (words.putIfAbsent(then[0] * 10000L + then[1], word + letter) == null) {
                    queue.add(then);
                }
            }
        }
        return null;
    }

    int differ(int one, int other) {
        String word = difference(one, other);
        return word == null ? NONE : word.length();
    }

    int differing(int one, int other, int i) {
        String word = difference(one, other);
        return word == null || i < 0 || i >= word.length() ? NONE : word.charAt(i) - '0';
    }

    boolean begin(int inMode) {
        if (!isMode(inMode)) {
            return false;
        }
        isThere = true;
        isEnded = false;
        mode = inMode;
        came = 0;
        kept.clear();
        pending.clear();
        tokens.clear();
        return true;
    }

    int feed(int word, int n) {
        if (!isThere || isEnded || n < 1 || n > 10) {
            return NONE;
        }
        for (int i = 0; i < n; i++) {
            if (tokens.size() >= 24) {
                return i;
            }
            int letter = word >> 3 * i & 7;
            pending.add(letter == 6 ? 0 : letter == 7 ? 1 : letter);
            came++;
            cutAll();
        }
        return n;
    }

    boolean end() {
        if (!isThere || isEnded) {
            return false;
        }
        isEnded = true;
        cutAll();
        return true;
    }

    private void cutAll() {
        while (!pending.isEmpty() && isDue()) {
            cut();
        }
    }

    private boolean isDue() {
        Left left = beginning(mode);
        for (int letter : pending) {
            left = left.after(letter);
            if (!left.isLive() || !left.goesOn()) {
                return true;
            }
        }
        return pending.size() == 48 || isEnded;
    }

    private void cut() {
        int rule = NONE;
        int length = 1;
        Left left = beginning(mode);
        for (int i = 0; i < pending.size(); i++) {
            left = left.after(pending.get(i));
            if (left.winner() != NONE) {
                rule = left.winner();
                length = i + 1;
            }
        }
        tokens.add(new int[] {rule, came - pending.size(), length, mode});
        pending.subList(0, length).clear();
        int action = rule == NONE ? 0 : rules.get(rule).action;
        if (action == 4 && !kept.isEmpty()) {
            mode = kept.pop();
        } else if (action >= 1 && action <= 3 && kept.size() < 5) {
            kept.push(mode);
            mode = action - 1;
        }
    }

    int ready() {
        return tokens.size();
    }

    int token(int what) {
        if (tokens.isEmpty()) {
            return Bench.NO_SUCH_ELEMENT;
        }
        return what < 0 || what > 3 ? Bench.OUT_OF_BOUNDS : tokens.peek()[what];
    }

    int take() {
        return tokens.poll() == null ? Bench.NO_SUCH_ELEMENT : 0;
    }

    int stream(int what) {
        if (!isThere || what < 0 || what > 3) {
            return NONE;
        }
        return new int[] {pending.size(), mode, kept.size(), came}[what];
    }
}
