/** Promises 4 (states), 5 (next), 6 (winner) and 8 (never). */
public final class StatesTest {
    private static final Check CHECK = new Check();

    public static void main(String[] args) {
        numbering();
        mergedStates();
        manyStates();
        noSuch();
        emptyWordNeverWins();
        earliestRuleWins();
        rulesThatNeverWin();
        laterRulesCount();
        CHECK.close();
    }

    private static void row(TokenBench x, int state, int winner, int... next) {
        CHECK.same("winner of state " + state, x.winner(0, state), winner);
        for (int letter = 0; letter < 6; letter++) {
            CHECK.same("next of state " + state + " by " + letter, x.next(0, state, letter), next[letter]);
        }
    }

    private static void numbering() {
        TokenBench x = Bench.with("fa", "cbb", "cda");
        CHECK.same("states", x.states(0), 8);
        row(x, 0, -1, -1, -1, 1, -1, -1, 2);
        row(x, 1, -1, -1, 3, -1, 4, -1, -1);
        row(x, 2, -1, 5, -1, -1, -1, -1, -1);
        row(x, 3, -1, -1, 6, -1, -1, -1, -1);
        row(x, 4, -1, 7, -1, -1, -1, -1, -1);
        row(x, 5, 0, -1, -1, -1, -1, -1, -1);
        row(x, 6, 1, -1, -1, -1, -1, -1, -1);
        row(x, 7, 2, -1, -1, -1, -1, -1, -1);
    }

    private static void mergedStates() {
        TokenBench x = Bench.with("(a|b)*abb");
        CHECK.same("states", x.states(0), 4);
        row(x, 0, -1, 1, 0, -1, -1, -1, -1);
        row(x, 1, -1, 1, 2, -1, -1, -1, -1);
        row(x, 2, -1, 1, 3, -1, -1, -1, -1);
        row(x, 3, 0, 1, 0, -1, -1, -1, -1);
        CHECK.same("a+ begins apart, since the empty word has no winner", Bench.with("a*").states(0), 2);
        CHECK.same("aa|ba", Bench.with("aa|ba").states(0), 3);
        CHECK.same("two rules keep ends apart", Bench.with("aa", "ba").states(0), 5);
        CHECK.same("a rule that never wins makes no state", Bench.with("a+", "aa").states(0), 2);
        CHECK.same("but it may keep words live", Bench.with("a", "a*b").states(0), 4);
    }

    private static void manyStates() {
        TokenBench x = Bench.with(".*a.......");
        CHECK.same("states", x.states(0), 256);
        CHECK.same("aaaaaaaa", Bench.stateOf(x, 0, "aaaaaaaa"), 128);
        CHECK.same("winner there", x.winner(0, 128), 0);
        CHECK.same("it stays", x.next(0, 128, 0), 128);
        CHECK.same("back to the beginning", Bench.stateOf(x, 0, "abcdefbcd"), 0);
        CHECK.same("nine letters in a row", Bench.with("abcdefabc").states(0), 10);
    }

    private static void noSuch() {
        TokenBench x = Bench.with("ab");
        int[] none = {-1, Integer.MIN_VALUE, Integer.MAX_VALUE, -2};
        for (int wrong : none) {
            CHECK.same("states " + wrong, x.states(wrong), -1);
            CHECK.same("next of mode " + wrong, x.next(wrong, 0, 0), -1);
            CHECK.same("next of state " + wrong, x.next(0, wrong, 0), -1);
            CHECK.same("next by letter " + wrong, x.next(0, 0, wrong), -1);
            CHECK.same("winner of mode " + wrong, x.winner(wrong, 0), -1);
            CHECK.same("winner of state " + wrong, x.winner(0, wrong), -1);
            CHECK.no("never " + wrong, x.never(wrong));
        }
        CHECK.same("states 3", x.states(3), -1);
        CHECK.same("mode 3", x.next(3, 0, 0), -1);
        CHECK.same("state 3", x.next(0, 3, 0), -1);
        CHECK.same("letter 6", x.next(0, 0, 6), -1);
        CHECK.same("letter 6 of state 1", x.next(0, 1, -5), -1);
        CHECK.same("winner of mode 3", x.winner(3, 0), -1);
        CHECK.same("winner of state 3", x.winner(0, 3), -1);
        CHECK.no("never 1", x.never(1));
        CHECK.no("never 16", x.never(16));
    }

    private static void emptyWordNeverWins() {
        TokenBench x = Bench.with("a*", "b?");
        CHECK.same("winner of the empty word", x.winner(0, 0), -1);
        CHECK.same("a", Bench.winnerOf(x, 0, "a"), 0);
        CHECK.same("b", Bench.winnerOf(x, 0, "b"), 1);
    }

    private static void earliestRuleWins() {
        TokenBench x = Bench.with("ab|c", "[a-c]+", "b");
        CHECK.same("ab", Bench.winnerOf(x, 0, "ab"), 0);
        CHECK.same("a", Bench.winnerOf(x, 0, "a"), 1);
        CHECK.same("b", Bench.winnerOf(x, 0, "b"), 1);
        CHECK.same("c", Bench.winnerOf(x, 0, "c"), 0);
        CHECK.same("cc", Bench.winnerOf(x, 0, "cc"), 1);
        CHECK.same("d", Bench.winnerOf(x, 0, "d"), -1);
    }

    private static void rulesThatNeverWin() {
        TokenBench x = Bench.with("a|b", "b", "[ab]", "bb|a", "b(b)");
        boolean[] due = {false, true, true, false, true};
        for (int rule = 0; rule < due.length; rule++) {
            CHECK.same("never " + rule, x.never(rule) ? 1 : 0, due[rule] ? 1 : 0);
        }
        TokenBench y = new TokenBench();
        Bench.rule(y, ".+", 0);
        Bench.rule(y, "a", 1);
        CHECK.no("a rule of another mode wins there", y.never(1));
        Bench.rule(y, "abc", 0);
        CHECK.yes("the same mode", y.never(2));
        CHECK.no("a rule to come", y.never(3));
        TokenBench z = Bench.with("a", "aa", "aaa+", "a+");
        CHECK.yes("three together leave nothing", z.never(3));
        CHECK.no("one of the three", z.never(2));
    }

    private static void laterRulesCount() {
        TokenBench x = Bench.with("ab");
        CHECK.same("states of ab", x.states(0), 3);
        Bench.rule(x, "ac", 0);
        CHECK.same("states of ab, ac", x.states(0), 4);
        CHECK.same("ac", Bench.winnerOf(x, 0, "ac"), 1);
        CHECK.same("another mode", x.states(1), 1);
    }
}
