import java.util.Arrays;
import java.util.NoSuchElementException;

/**
 * Cuts endless rows of letters into tokens by rules: the longest match wins, and of such the
 * earliest rule; tokens are told as soon as nothing that may come can make them longer; how far
 * that may be, which rules never win, and whether two sets of rules cut alike, is worked out.
 */
public final class TokenBench {

    public static final int NONE = -1;

    private static final int NO_SUCH_MODE = -2;
    private static final int WRONG_TEXT = -2;

    private static final int LETTERS = 6;
    private static final int EVERY_LETTER = (1 << LETTERS) - 1;
    private static final int MODES = 3;
    private static final int RULES = 16;
    private static final int TEXT = 24;
    private static final int DEPTH = 4;
    private static final int PLACES = 9;
    /** A state is at most a set of places; the empty set stands for the beginning. */
    private static final int STATES = 1 << PLACES;

    private static final int BYTES = 8;
    private static final int FED = 10;
    private static final int PENDING = 48;
    private static final int KEPT = 5;
    private static final int WAITING = 24;
    /** The last letter taken finds at most 23 tokens waiting, and 48 pending letters give 48 more. */
    private static final int TOKENS = WAITING + PENDING;

    private static final int NO_ACTION = 0;
    private static final int LEAVE = 4;

    private static final int TOKEN_RULE = 0;
    private static final int TOKEN_START = 1;
    private static final int TOKEN_LENGTH = 2;
    private static final int TOKEN_MODE = 3;
    private static final int TOKEN_FACTS = 4;

    private final int[] tape = new int[TEXT];
    private int tapeLength = 0;
    private final RuleText text = new RuleText();
    private final RuleBook book = new RuleBook();
    private final Comparison comparison = new Comparison();
    private final Stream stream = new Stream();

    public TokenBench() {
    }

    public boolean type(long word, int n) {
        if (n < 1 || n > BYTES || tapeLength + n > TEXT) {
            return false;
        }
        for (int i = n - 1; i >= 0; i--) {
            tape[tapeLength] = (int) (word >>> (8 * i)) & 255;
            tapeLength++;
        }
        return true;
    }

    public int rule(int mode, int action) {
        int wrong = text.read(tape, tapeLength);
        tapeLength = 0;
        if (wrong != NONE) {
            return WRONG_TEXT - wrong;
        }
        if (stream.isUnderWay() || !book.hasRoomFor(mode, action, text)) {
            return NONE;
        }
        comparison.forget();
        return book.add(mode, action, text);
    }

    public int states(int mode) {
        return isMode(mode) ? book.machineOf(mode).size() : NONE;
    }

    public int next(int mode, int state, int letter) {
        return isMode(mode) ? book.machineOf(mode).after(state, letter) : NONE;
    }

    public int winner(int mode, int state) {
        return isMode(mode) ? book.machineOf(mode).winnerOf(state) : NONE;
    }

    public int distance(int mode) {
        return isMode(mode) ? book.machineOf(mode).widestGap() : NO_SUCH_MODE;
    }

    public boolean never(int rule) {
        return book.hasRule(rule) && !book.machineOf(book.modeOf(rule)).everWins(rule);
    }

    public int differ(int one, int other) {
        return compared(one, other) ? comparison.length() : NONE;
    }

    public int differing(int one, int other, int i) {
        return compared(one, other) ? comparison.letterAt(i) : NONE;
    }

    public boolean begin(int mode) {
        if (!isMode(mode)) {
            return false;
        }
        stream.open(mode);
        return true;
    }

    public int feed(int word, int n) {
        if (!stream.isUnderWay() || n < 1 || n > FED) {
            return NONE;
        }
        return stream.accept(word, n, book);
    }

    public boolean end() {
        if (!stream.isUnderWay()) {
            return false;
        }
        stream.finish(book);
        return true;
    }

    public int ready() {
        return stream.tokens().size();
    }

    public int token(int what) throws NoSuchElementException, IndexOutOfBoundsException {
        if (stream.tokens().size() == 0) {
            throw new NoSuchElementException();
        }
        if (what < 0 || what >= TOKEN_FACTS) {
            throw new IndexOutOfBoundsException();
        }
        return stream.tokens().oldest(what);
    }

    public void take() throws NoSuchElementException {
        if (stream.tokens().size() == 0) {
            throw new NoSuchElementException();
        }
        stream.tokens().drop();
    }

    public int stream(int what) {
        return stream.isThere() ? stream.fact(what) : NONE;
    }

    private boolean compared(int one, int other) {
        if (!isMode(one) || !isMode(other)) {
            return false;
        }
        if (!comparison.isOf(one, other)) {
            comparison.compare(book.machineOf(one), book.machineOf(other));
            comparison.keepFor(one, other);
        }
        return true;
    }

    private static boolean isMode(int mode) {
        return mode >= 0 && mode < MODES;
    }

    private static boolean holds(int set, int member) {
        return (set >> member & 1) != 0;
    }

    /** What is known of a piece of a text: the places with which its words begin and end. */
    private static final class Piece {
        private final int first;
        private final int last;
        private final boolean matchesEmpty;

        Piece(int first, int last, boolean matchesEmpty) {
            this.first = first;
            this.last = last;
            this.matchesEmpty = matchesEmpty;
        }

        Piece or(Piece other) {
            return new Piece(first | other.first, last | other.last, matchesEmpty || other.matchesEmpty);
        }

        Piece then(Piece behind) {
            return new Piece(matchesEmpty ? first | behind.first : first,
                    behind.matchesEmpty ? last | behind.last : behind.last,
                    matchesEmpty && behind.matchesEmpty);
        }

        Piece orEmpty() {
            return new Piece(first, last, true);
        }
    }

    /** Reads what stands between [ and ], a character at a time. */
    private static final class LetterSet {
        private boolean isOpen = false;
        private boolean isFresh = false;
        private boolean isOfOthers = false;
        private boolean isBehindDash = false;
        private int named = 0;
        /** The letter that a - may follow. */
        private int from = NONE;

        void open() {
            isOpen = true;
            isFresh = true;
            isOfOthers = false;
            isBehindDash = false;
            named = 0;
            from = NONE;
        }

        void close() {
            isOpen = false;
        }

        boolean isOpen() {
            return isOpen;
        }

        int letters() {
            return isOfOthers ? EVERY_LETTER & ~named : named;
        }

        boolean mayClose() {
            return named != 0 && !isBehindDash && letters() != 0;
        }

        boolean putCaret() {
            boolean stands = isFresh;
            isOfOthers = true;
            isFresh = false;
            return stands;
        }

        boolean putDash() {
            boolean stands = from != NONE && !isBehindDash;
            isBehindDash = true;
            return stands;
        }

        boolean putLetter(int letter) {
            isFresh = false;
            if (!isBehindDash) {
                named |= 1 << letter;
                from = letter;
                return true;
            }
            for (int i = from; i <= letter; i++) {
                named |= 1 << i;
            }
            boolean stands = from <= letter;
            isBehindDash = false;
            from = NONE;
            return stands;
        }
    }

    /** Reads the text of a rule; its places are numbered from 0 as they come. */
    private static final class RuleText {
        private final Piece noWord = new Piece(0, 0, false);
        private final Piece emptyWord = new Piece(0, 0, true);
        private final LetterSet set = new LetterSet();

        /** For each open ( and for the whole: the sequences that are done, the one under way, its last part. */
        private final Piece[] choices = new Piece[DEPTH + 1];
        private final Piece[] sequences = new Piece[DEPTH + 1];
        private final Piece[] parts = new Piece[DEPTH + 1];
        private int depth = 0;

        private final int[] letters = new int[TEXT];
        private final int[] followers = new int[TEXT];
        private int places = 0;

        /** The place of the first character that can't stand there, or NONE. */
        int read(int[] characters, int length) {
            places = 0;
            set.close();
            openLevel(0);
            for (int i = 0; i < length && i < characters.length; i++) {
                boolean stands = set.isOpen() ? canStandInSet(characters[i]) : canStand(characters[i]);
                if (!stands) {
                    return i;
                }
            }
            boolean isWhole = !set.isOpen() && depth == 0 && endSequence();
            return isWhole ? NONE : length;
        }

        int places() {
            return places;
        }

        int lettersAt(int place) {
            return letters[place];
        }

        int followersOf(int place) {
            return followers[place];
        }

        int firstPlaces() {
            return choices[0].first;
        }

        int lastPlaces() {
            return choices[0].last;
        }

        private boolean canStand(int c) {
            switch (c) {
                case '.':
                    addPlace(EVERY_LETTER);
                    return true;
                case '[':
                    set.open();
                    return true;
                case '(':
                    return openGroup();
                case ')':
                    return closeGroup();
                case '|':
                    return endSequence();
                case '*':
                case '+':
                case '?':
                    return repeatPart(c);
                default:
                    return putLetter(c - 'a');
            }
        }

        private boolean canStandInSet(int c) {
            switch (c) {
                case '^':
                    return set.putCaret();
                case '-':
                    return set.putDash();
                case ']':
                    if (!set.mayClose()) {
                        return false;
                    }
                    set.close();
                    addPlace(set.letters());
                    return true;
                default:
                    return isLetter(c - 'a') && set.putLetter(c - 'a');
            }
        }

        private static boolean isLetter(int letter) {
            return letter >= 0 && letter < LETTERS;
        }

        private boolean putLetter(int letter) {
            if (!isLetter(letter)) {
                return false;
            }
            addPlace(1 << letter);
            return true;
        }

        private boolean openGroup() {
            if (depth >= DEPTH) {
                return false;
            }
            openLevel(depth + 1);
            return true;
        }

        private boolean closeGroup() {
            if (depth == 0 || !endSequence()) {
                return false;
            }
            depth--;
            addPart(choices[depth + 1]);
            return true;
        }

        private void openLevel(int level) {
            depth = level;
            choices[level] = noWord;
            sequences[level] = emptyWord;
            parts[level] = null;
        }

        private boolean endSequence() {
            if (parts[depth] == null) {
                return false;
            }
            addPart(null);
            choices[depth] = choices[depth].or(sequences[depth]);
            sequences[depth] = emptyWord;
            return true;
        }

        private void addPlace(int lettersThere) {
            letters[places] = lettersThere;
            followers[places] = 0;
            int place = 1 << places;
            places++;
            addPart(new Piece(place, place, false));
        }

        /** A part joins its sequence only when the next comes, since *, + and ? are for the part alone. */
        private void addPart(Piece part) {
            Piece done = parts[depth];
            if (done != null) {
                link(sequences[depth].last, done.first);
                sequences[depth] = sequences[depth].then(done);
            }
            parts[depth] = part;
        }

        private boolean repeatPart(int sign) {
            Piece part = parts[depth];
            if (part == null) {
                return false;
            }
            if (sign != '?') {
                link(part.last, part.first);
            }
            if (sign != '+') {
                parts[depth] = part.orEmpty();
            }
            return true;
        }

        private void link(int before, int behind) {
            for (int place = 0; place < places; place++) {
                if ((before >> place & 1) != 0) {
                    followers[place] |= behind;
                }
            }
        }
    }

    /** The places of all rules of a mode; those of earlier rules have lower numbers. */
    private static final class Mode {
        private final int[] letters = new int[PLACES];
        private final int[] followers = new int[PLACES];
        private final int[] rules = new int[PLACES];
        private int places = 0;
        private int first = 0;
        private int last = 0;

        boolean hasRoomFor(RuleText text) {
            return places + text.places() <= PLACES;
        }

        void add(RuleText text, int rule) {
            first |= text.firstPlaces() << places;
            last |= text.lastPlaces() << places;
            int before = places;
            for (int i = 0; i < text.places() && places < PLACES; i++) {
                letters[places] = text.lettersAt(i);
                followers[places] = text.followersOf(i) << before;
                rules[places] = rule;
                places++;
            }
        }

        int placesOf(int letter) {
            int set = 0;
            for (int place = 0; place < places; place++) {
                if (holds(letters[place], letter)) {
                    set |= 1 << place;
                }
            }
            return set;
        }

        int placesBehind(int set) {
            if (set == 0) {
                return first;
            }
            int behind = 0;
            for (int place = 0; place < places; place++) {
                if (holds(set, place)) {
                    behind |= followers[place];
                }
            }
            return behind;
        }

        int winnerOf(int set) {
            for (int place = 0; place < places; place++) {
                if (holds(set & last, place)) {
                    return rules[place];
                }
            }
            return NONE;
        }
    }

    private static final class RuleBook {
        private final Mode[] modes = new Mode[MODES];
        private final Machine[] machines = new Machine[MODES];
        private final MachineBuilder builder = new MachineBuilder();
        private final int[] modeOfRule = new int[RULES];
        private final int[] actionOfRule = new int[RULES];
        private int rules = 0;

        RuleBook() {
            Machine withoutRules = builder.build(new Mode());
            for (int mode = 0; mode < MODES; mode++) {
                modes[mode] = new Mode();
                machines[mode] = withoutRules;
            }
        }

        boolean hasRoomFor(int mode, int action, RuleText text) {
            boolean isAction = action >= NO_ACTION && action <= LEAVE;
            return rules < RULES && isMode(mode) && isAction && modes[mode].hasRoomFor(text);
        }

        int add(int mode, int action, RuleText text) {
            int rule = rules;
            modeOfRule[rule] = mode;
            actionOfRule[rule] = action;
            rules++;
            modes[mode].add(text, rule);
            machines[mode] = builder.build(modes[mode]);
            return rule;
        }

        boolean hasRule(int rule) {
            return rule >= 0 && rule < rules;
        }

        int modeOf(int rule) {
            return modeOfRule[rule];
        }

        int actionOf(int rule) {
            return actionOfRule[rule];
        }

        Machine machineOf(int mode) {
            return machines[mode];
        }
    }

    /**
     * Makes the machine of a mode: finds the sets of places that words lead to, in the order of
     * their first words, and groups those that are one state. A group is numbered when its first
     * set comes, so the groups' numbers are at last those of the states.
     */
    private static final class MachineBuilder {
        private final int[] placesOf = new int[LETTERS];
        private final int[] found = new int[STATES];
        private int foundCount = 0;
        private final int[] behind = new int[STATES];
        private final int[] groups = new int[STATES];
        private final int[] finerGroups = new int[STATES];
        /** The finer groups of one group hang together: the newest of them, and to each the one before. */
        private final int[] newest = new int[STATES];
        private final int[] older = new int[STATES];
        private final int[] sample = new int[STATES];

        Machine build(Mode mode) {
            findSets(mode);
            int count = 0;
            for (int round = 0; round <= STATES; round++) {
                int finer = refine();
                if (finer == count) {
                    break;
                }
                count = finer;
            }
            return machineOf(mode, count);
        }

        private void findSets(Mode mode) {
            for (int letter = 0; letter < LETTERS; letter++) {
                placesOf[letter] = mode.placesOf(letter);
            }
            Arrays.fill(groups, NONE);
            foundCount = 0;
            meet(0, mode);
            for (int i = 0; i < foundCount && i < STATES; i++) {
                for (int letter = 0; letter < LETTERS; letter++) {
                    int set = behind[found[i]] & placesOf[letter];
                    if (set != 0 && groups[set] == NONE) {
                        meet(set, mode);
                    }
                }
            }
        }

        private void meet(int set, Mode mode) {
            found[foundCount] = set;
            foundCount++;
            behind[set] = mode.placesBehind(set);
            groups[set] = mode.winnerOf(set) + 1;
        }

        private int groupAfter(int set, int letter) {
            int after = behind[set] & placesOf[letter];
            return after == 0 ? NONE : groups[after];
        }

        private int refine() {
            Arrays.fill(newest, NONE);
            int count = 0;
            for (int i = 0; i < foundCount; i++) {
                int set = found[i];
                int home = homeOf(set);
                if (home == NONE) {
                    home = count;
                    count++;
                    sample[home] = set;
                    older[home] = newest[groups[set]];
                    newest[groups[set]] = home;
                }
                finerGroups[set] = home;
            }
            for (int i = 0; i < foundCount; i++) {
                groups[found[i]] = finerGroups[found[i]];
            }
            return count;
        }

        private int homeOf(int set) {
            int home = newest[groups[set]];
            for (int steps = 0; steps < STATES && home != NONE; steps++) {
                if (goOnAlike(set, sample[home])) {
                    return home;
                }
                home = older[home];
            }
            return NONE;
        }

        private boolean goOnAlike(int set, int other) {
            for (int letter = 0; letter < LETTERS; letter++) {
                if (groupAfter(set, letter) != groupAfter(other, letter)) {
                    return false;
                }
            }
            return true;
        }

        private Machine machineOf(Mode mode, int count) {
            int[] after = new int[count * LETTERS];
            int[] winners = new int[count];
            for (int state = 0; state < count; state++) {
                winners[state] = mode.winnerOf(sample[state]);
                for (int letter = 0; letter < LETTERS; letter++) {
                    after[state * LETTERS + letter] = groupAfter(sample[state], letter);
                }
            }
            return new Machine(after, winners);
        }
    }

    /** The states of a mode. */
    private static final class Machine {
        private final int[] after;
        private final int[] winners;
        private int gap = NONE;
        private boolean isGapKnown = false;

        Machine(int[] after, int[] winners) {
            this.after = after;
            this.winners = winners;
        }

        int size() {
            return winners.length;
        }

        private boolean hasState(int state) {
            return state >= 0 && state < winners.length;
        }

        int after(int state, int letter) {
            boolean isThere = hasState(state) && letter >= 0 && letter < LETTERS;
            return isThere ? after[state * LETTERS + letter] : NONE;
        }

        int winnerOf(int state) {
            return hasState(state) ? winners[state] : NONE;
        }

        boolean hasWinner(int state) {
            return winnerOf(state) != NONE;
        }

        boolean goesOn(int state) {
            for (int letter = 0; letter < LETTERS; letter++) {
                if (after(state, letter) != NONE) {
                    return true;
                }
            }
            return false;
        }

        boolean everWins(int rule) {
            for (int state = 0; state < winners.length; state++) {
                if (winners[state] == rule) {
                    return true;
                }
            }
            return false;
        }

        int widestGap() {
            if (!isGapKnown) {
                gap = new GapFinder(this).widest();
                isGapKnown = true;
            }
            return gap;
        }
    }

    /**
     * Finds how many letters may lie between a word with a winner and the next longer one. A state
     * BETWEEN has no winner, and comes behind one that has, with none on the way. Every one of
     * them leads to a winner, since it is live; so a ring of them is a gap without bound.
     */
    private static final class GapFinder {
        private final Machine machine;
        private final int[] between;
        private int betweenCount = 0;
        private final boolean[] isBetween;
        private final int[] waysIn;
        /** The greatest number of letters from a winner to here. */
        private final int[] far;
        private final int[] settled;
        private int settledCount = 0;
        private int widest = 0;

        GapFinder(Machine machine) {
            this.machine = machine;
            between = new int[machine.size()];
            isBetween = new boolean[machine.size()];
            waysIn = new int[machine.size()];
            far = new int[machine.size()];
            settled = new int[machine.size()];
        }

        int widest() {
            for (int state = 0; state < machine.size(); state++) {
                if (machine.hasWinner(state)) {
                    meetFollowers(state);
                }
            }
            for (int i = 0; i < betweenCount && i < between.length; i++) {
                meetFollowers(between[i]);
            }
            countWaysIn();
            for (int i = 0; i < settledCount && i < settled.length; i++) {
                passOn(settled[i]);
            }
            return settledCount < betweenCount ? NONE : widest;
        }

        private void meetFollowers(int state) {
            for (int letter = 0; letter < LETTERS; letter++) {
                int to = machine.after(state, letter);
                if (to == NONE) {
                    continue;
                }
                if (machine.hasWinner(to)) {
                    widest = 1;
                } else if (!isBetween[to]) {
                    isBetween[to] = true;
                    far[to] = 1;
                    between[betweenCount] = to;
                    betweenCount++;
                }
            }
        }

        private void countWaysIn() {
            for (int i = 0; i < betweenCount; i++) {
                for (int letter = 0; letter < LETTERS; letter++) {
                    int to = machine.after(between[i], letter);
                    if (to != NONE) {
                        waysIn[to]++;
                    }
                }
            }
            for (int i = 0; i < betweenCount; i++) {
                if (waysIn[between[i]] == 0) {
                    settle(between[i]);
                }
            }
        }

        private void settle(int state) {
            settled[settledCount] = state;
            settledCount++;
        }

        private void passOn(int state) {
            int reached = far[state] + 1;
            for (int letter = 0; letter < LETTERS; letter++) {
                int to = machine.after(state, letter);
                if (to == NONE) {
                    continue;
                }
                if (machine.hasWinner(to)) {
                    widest = Math.max(widest, reached);
                    continue;
                }
                far[to] = Math.max(far[to], reached);
                waysIn[to]--;
                if (waysIn[to] == 0) {
                    settle(to);
                }
            }
        }
    }

    /**
     * Seeks the first word that has a winner in just one of two machines. Words are tried by
     * length, then as in a book. A pair of states is left out if earlier pairs tie the two
     * together: a word that tells them apart would tell one of those earlier pairs apart too,
     * and be found there first. So there are never more pairs than states.
     */
    private static final class Comparison {
        /** Each machine has one node more, for words that are not live. */
        private static final int NODES = 2 * (STATES + 1);
        private static final int PAIRS = NODES + 1;

        private final int[] leader = new int[NODES];
        private final int[] left = new int[PAIRS];
        private final int[] right = new int[PAIRS];
        private final int[] before = new int[PAIRS];
        private final int[] letters = new int[PAIRS];
        private int pairs = 0;
        private int length = NONE;
        private int one = NONE;
        private int other = NONE;

        boolean isOf(int one, int other) {
            return this.one == one && this.other == other;
        }

        void keepFor(int one, int other) {
            this.one = one;
            this.other = other;
        }

        void forget() {
            keepFor(NONE, NONE);
        }

        int length() {
            return length;
        }

        int letterAt(int i) {
            if (i < 0 || i >= length) {
                return NONE;
            }
            int pair = pairs - 1;
            for (int steps = length - 1; steps > i; steps--) {
                pair = before[pair];
            }
            return letters[pair];
        }

        void compare(Machine a, Machine b) {
            for (int node = 0; node < NODES; node++) {
                leader[node] = node;
            }
            pairs = 0;
            length = NONE;
            tie(leftNode(0), rightNode(0));
            add(0, 0, 0, NONE);
            for (int pair = 0; pair < pairs && pair < PAIRS; pair++) {
                if (findsDifference(a, b, pair)) {
                    length = lengthOfLast();
                    break;
                }
            }
        }

        private boolean findsDifference(Machine a, Machine b, int pair) {
            for (int letter = 0; letter < LETTERS; letter++) {
                int inA = a.after(left[pair], letter);
                int inB = b.after(right[pair], letter);
                boolean differs = a.hasWinner(inA) != b.hasWinner(inB);
                if (differs || tie(leftNode(inA), rightNode(inB))) {
                    add(inA, inB, pair, letter);
                }
                if (differs) {
                    return true;
                }
            }
            return false;
        }

        private void add(int inA, int inB, int pairBefore, int letter) {
            left[pairs] = inA;
            right[pairs] = inB;
            before[pairs] = pairBefore;
            letters[pairs] = letter;
            pairs++;
        }

        private int lengthOfLast() {
            int steps = 0;
            for (int pair = pairs - 1; pair > 0 && steps < PAIRS; pair = before[pair]) {
                steps++;
            }
            return steps;
        }

        private static int leftNode(int state) {
            return state + 1;
        }

        private static int rightNode(int state) {
            return state + 1 + STATES + 1;
        }

        private boolean tie(int node, int otherNode) {
            int leaderOfOne = leaderOf(node);
            int leaderOfOther = leaderOf(otherNode);
            leader[leaderOfOne] = leaderOfOther;
            return leaderOfOne != leaderOfOther;
        }

        private int leaderOf(int node) {
            int at = node;
            for (int steps = 0; steps < NODES && leader[at] != at; steps++) {
                leader[at] = leader[leader[at]];
                at = leader[at];
            }
            return at;
        }
    }

    /** The tokens that wait, the oldest first. */
    private static final class TokenQueue {
        private final int[] facts = new int[TOKENS * TOKEN_FACTS];
        private int oldest = 0;
        private int size = 0;

        void clear() {
            oldest = 0;
            size = 0;
        }

        int size() {
            return size;
        }

        void add(int rule, int start, int length, int mode) {
            if (size >= TOKENS) {
                return;
            }
            int at = (oldest + size) % TOKENS * TOKEN_FACTS;
            facts[at + TOKEN_RULE] = rule;
            facts[at + TOKEN_START] = start;
            facts[at + TOKEN_LENGTH] = length;
            facts[at + TOKEN_MODE] = mode;
            size++;
        }

        int oldest(int what) {
            return facts[oldest * TOKEN_FACTS + what];
        }

        void drop() {
            oldest = (oldest + 1) % TOKENS;
            size--;
        }
    }

    private static final class Stream {
        private final TokenQueue tokens = new TokenQueue();
        private boolean isThere = false;
        private boolean isEnded = false;
        private int mode = 0;
        private final int[] kept = new int[KEPT];
        private int keptCount = 0;
        private int came = 0;
        private final int[] pending = new int[PENDING];
        private int pendingCount = 0;

        /** How many of the pending letters have been looked at, and what they are so far. */
        private int looked = 0;
        private int state = 0;
        private int matched = 0;
        private int matchedRule = NONE;

        void open(int firstMode) {
            isThere = true;
            isEnded = false;
            mode = firstMode;
            keptCount = 0;
            came = 0;
            pendingCount = 0;
            tokens.clear();
            lookAnew();
        }

        boolean isThere() {
            return isThere;
        }

        boolean isUnderWay() {
            return isThere && !isEnded;
        }

        TokenQueue tokens() {
            return tokens;
        }

        int fact(int what) {
            switch (what) {
                case 0:
                    return pendingCount;
                case 1:
                    return mode;
                case 2:
                    return keptCount;
                case 3:
                    return came;
                default:
                    return NONE;
            }
        }

        int accept(int word, int n, RuleBook book) {
            int taken = 0;
            while (taken < n && tokens.size() < WAITING && pendingCount < PENDING) {
                pending[pendingCount] = (word >>> (3 * taken) & 7) % LETTERS;
                pendingCount++;
                came++;
                taken++;
                cutAllDue(book);
            }
            return taken;
        }

        void finish(RuleBook book) {
            isEnded = true;
            cutAllDue(book);
        }

        private void cutAllDue(RuleBook book) {
            for (int cuts = 0; cuts < PENDING && isCutDue(book.machineOf(mode)); cuts++) {
                cut(book);
            }
        }

        private boolean isCutDue(Machine machine) {
            for (int i = looked; i < pendingCount; i++) {
                lookAt(pending[i], machine);
                if (!machine.goesOn(state)) {
                    return true;
                }
            }
            return pendingCount == PENDING || isEnded && pendingCount > 0;
        }

        private void lookAt(int letter, Machine machine) {
            state = machine.after(state, letter);
            looked++;
            int rule = machine.winnerOf(state);
            if (rule != NONE) {
                matched = looked;
                matchedRule = rule;
            }
        }

        private void lookAnew() {
            looked = 0;
            state = 0;
            matched = 0;
            matchedRule = NONE;
        }

        private void cut(RuleBook book) {
            int rule = matchedRule;
            int length = Math.max(matched, 1);
            tokens.add(rule, came - pendingCount, length, mode);
            pendingCount -= length;
            System.arraycopy(pending, length, pending, 0, pendingCount);
            lookAnew();
            if (rule != NONE) {
                act(book.actionOf(rule));
            }
        }

        private void act(int action) {
            if (action == LEAVE) {
                leave();
            } else if (action != NO_ACTION) {
                enter(action - 1);
            }
        }

        private void enter(int newMode) {
            if (keptCount < KEPT) {
                kept[keptCount] = mode;
                keptCount++;
                mode = newMode;
            }
        }

        private void leave() {
            if (keptCount > 0) {
                keptCount--;
                mode = kept[keptCount];
            }
        }
    }
}
