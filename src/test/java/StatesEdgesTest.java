/**
 * The edges of what is worked out of the rules: a method for each sentence of "Terms" and of
 * promises 4 to 10 (states, next, winner, distance, never, differ, differing) that names one.
 */
public final class StatesEdgesTest {
    private static final int LEAST = Integer.MIN_VALUE;
    private static final int MOST = Integer.MAX_VALUE;
    private static final int[] NO_MODES = {-1, 3, -2, 4, LEAST, MOST};
    /** Nine places that words lead to in every way: 511 sets and the beginning. */
    private static final String GREATEST = "(b+........)+";

    private static final Check CHECK = new Check();

    public static void main(String[] args) {
        emptyWordHasNoWinner();
        leastRuleWins();
        noWinner();
        liveThemselves();
        emptyWordIsLive();
        alsoNothingBehind();
        numberedByLengthThenAsInABook();
        zeroIsTheEmptyWord();
        distanceZero();
        distanceNone();
        distanceNotBefore();

        statesOfNoMode();
        statesMost();
        nextLetters();
        nextNotLive();
        nextNoSuch();
        winnerNoSuch();
        distanceOfNoMode();
        neverNoSuch();
        differNone();
        differNoSuchModes();
        differEdges();
        differingFirstInABook();
        differingBehindAState0();
        differingNoLetter();
        differingMost();
        differLong();
        CHECK.close();
    }

    private static void emptyWordHasNoWinner() {
        CHECK.of("the empty word never has one");
        for (String text : new String[] {"a*", "a?", "a*|b", "(a?b*)*", "(a|b?)"}) {
            TokenBench x = Bench.with(text);
            CHECK.same("winner of the empty word by " + text, x.winner(0, 0), -1);
            CHECK.same("winner of a by " + text, Bench.winnerOf(x, 0, "a"), 0);
        }
        TokenBench x = Bench.with("a*");
        x.begin(0);
        Bench.feed(x, "b");
        CHECK.text("no token of length 0", Bench.tokens(x), "-1@0+1/0");
    }

    private static void leastRuleWins() {
        CHECK.of("the WINNER of a word that is not empty is the least of its rules that matches it");
        TokenBench x = Bench.with("ab", "a.", "..", "ac");
        CHECK.same("ab", Bench.winnerOf(x, 0, "ab"), 0);
        CHECK.same("ac", Bench.winnerOf(x, 0, "ac"), 1);
        CHECK.same("bc", Bench.winnerOf(x, 0, "bc"), 2);
        TokenBench y = new TokenBench();
        for (int i = 0; i < 15; i++) {
            Bench.rule(y, "a", i % 2);
        }
        CHECK.same("rule 15", Bench.rule(y, "a", 2), 15);
        CHECK.same("in mode 0", Bench.winnerOf(y, 0, "a"), 0);
        CHECK.same("in mode 1", Bench.winnerOf(y, 1, "a"), 1);
        CHECK.same("in mode 2", Bench.winnerOf(y, 2, "a"), 15);
    }

    private static void noWinner() {
        CHECK.of("a word has none, if no rule does");
        TokenBench x = Bench.with("abc");
        CHECK.same("a", Bench.winnerOf(x, 0, "a"), -1);
        CHECK.same("ab", Bench.winnerOf(x, 0, "ab"), -1);
        CHECK.same("abc", Bench.winnerOf(x, 0, "abc"), 0);
        CHECK.same("abcd", Bench.winnerOf(x, 0, "abcd"), -1);
        Bench.rule(x, "ab", 1);
        CHECK.same("a rule of another mode", Bench.winnerOf(x, 0, "ab"), -1);
    }

    private static void liveThemselves() {
        CHECK.of("Words with which some word that has a winner begins (all such, also themselves) are LIVE");
        TokenBench x = Bench.with("ab");
        CHECK.same("states", x.states(0), 3);
        CHECK.same("a", Bench.stateOf(x, 0, "a"), 1);
        CHECK.same("ab itself", Bench.stateOf(x, 0, "ab"), 2);
        CHECK.same("b", Bench.stateOf(x, 0, "b"), -1);
        CHECK.same("aba", Bench.stateOf(x, 0, "aba"), -1);
        CHECK.same("aa", Bench.stateOf(x, 0, "aa"), -1);
    }

    private static void emptyWordIsLive() {
        CHECK.of("and so is the empty word");
        TokenBench x = new TokenBench();
        for (int mode = 0; mode < 3; mode++) {
            CHECK.same("states without a rule", x.states(mode), 1);
            CHECK.same("winner", x.winner(mode, 0), -1);
            CHECK.same("winner of a state 1", x.winner(mode, 1), -1);
            for (int letter = 0; letter < 6; letter++) {
                CHECK.same("next", x.next(mode, 0, letter), -1);
            }
        }
    }

    private static void alsoNothingBehind() {
        CHECK.of("one STATE, if whatever comes behind them (also nothing) has the same winners");
        CHECK.same("a* tells the empty word and a apart", Bench.with("a*").states(0), 2);
        CHECK.same("a|b puts a and b together", Bench.with("a|b").states(0), 2);
        CHECK.same("a and b by two rules", Bench.with("a", "b").states(0), 3);
        CHECK.same("(aa)*b goes back to the beginning", Bench.with("(aa)*b").next(0, 1, 0), 0);
        CHECK.same("its states", Bench.with("(aa)*b").states(0), 3);
        CHECK.same("an end and a live word", Bench.with("ab?", "b").states(0), 4);
        CHECK.same("rules that never win make no states", Bench.with("a+", "aa", "aaa").states(0), 2);
    }

    private static void numberedByLengthThenAsInABook() {
        CHECK.of("numbered as their first words come, by length, then as in a book");
        TokenBench x = Bench.with("f", "ab", "eaa");
        CHECK.same("a", Bench.stateOf(x, 0, "a"), 1);
        CHECK.same("e", Bench.stateOf(x, 0, "e"), 2);
        CHECK.same("f", Bench.stateOf(x, 0, "f"), 3);
        CHECK.same("ab", Bench.stateOf(x, 0, "ab"), 4);
        CHECK.same("ea", Bench.stateOf(x, 0, "ea"), 5);
        CHECK.same("eaa", Bench.stateOf(x, 0, "eaa"), 6);
        TokenBench y = Bench.with("(b|ca)d", "cc");
        CHECK.same("b", Bench.stateOf(y, 0, "b"), 1);
        CHECK.same("c", Bench.stateOf(y, 0, "c"), 2);
        CHECK.same("bd comes before cc", Bench.stateOf(y, 0, "bd"), 3);
        CHECK.same("ca is the state of b", Bench.stateOf(y, 0, "ca"), 1);
        CHECK.same("cc", Bench.stateOf(y, 0, "cc"), 4);
    }

    private static void zeroIsTheEmptyWord() {
        CHECK.of("0 is that of the empty word");
        TokenBench x = Bench.with("[ab]*c");
        CHECK.same("states", x.states(0), 2);
        CHECK.same("a", x.next(0, 0, 0), 0);
        CHECK.same("b", x.next(0, 0, 1), 0);
        CHECK.same("c", x.next(0, 0, 2), 1);
        CHECK.same("winner of 0", x.winner(0, 0), -1);
    }

    private static void distanceZero() {
        CHECK.of("The DISTANCE: .. 0 if there are none such");
        CHECK.same("no rule", new TokenBench().distance(0), 0);
        CHECK.same("one letter", Bench.with("a").distance(0), 0);
        CHECK.same("no word with a winner begins another", Bench.with("ab", "ba", "b*c").distance(0), 0);
        CHECK.same("far to the first winner only", Bench.with("a*bcdef").distance(0), 0);
        CHECK.same("a ring ahead of the only winner", Bench.with("(ab)*c").distance(0), 0);
    }

    private static void distanceNone() {
        CHECK.of("The DISTANCE: .. NONE if there is no greatest");
        CHECK.same("a ring behind a winner", Bench.with("a", "ab*c").distance(0), -1);
        CHECK.same("a ring of one letter behind it", Bench.with("a|a.*f").distance(0), -1);
        CHECK.same("a ring of five states", Bench.with("a|a(bcdef)*d").distance(0), -1);
        CHECK.same("a ring through a winner is none", Bench.with("(abcdefabc)+").distance(0), 9);
        CHECK.same("a ring on winners alone", Bench.with("a+").distance(0), 1);
        CHECK.same("a ring before any winner", Bench.with("a*b|a*bc").distance(0), 1);
    }

    private static void distanceNotBefore() {
        CHECK.of("n letters behind it, with which it has one again, and not before");
        CHECK.same("a, aa, aaa", Bench.with("a", "aa", "aaa").distance(0), 1);
        CHECK.same("a, aaa", Bench.with("a", "aaa").distance(0), 2);
        CHECK.same("of two ways the longer", Bench.with("a|ab|acdef").distance(0), 4);
        CHECK.same("of two ways to one state the longer", Bench.with("a|a(b|cd)ef").distance(0), 4);
        CHECK.same("eight", Bench.with("a(bcdefabc)?").distance(0), 8);
        CHECK.same("the empty word is no winner", Bench.with("(abc)?").distance(0), 0);
        CHECK.same("more than the places", Bench.with("(a*..a+[ab].[ab]a)?a").distance(0), 18);
    }

    private static void statesOfNoMode() {
        CHECK.of("states: NONE if there is none such");
        TokenBench x = Bench.with("a");
        for (int mode : NO_MODES) {
            CHECK.same("states " + mode, x.states(mode), -1);
        }
        CHECK.same("states 2", x.states(2), 1);
    }

    private static void statesMost() {
        CHECK.of("How many states a mode has");
        TokenBench x = new TokenBench();
        for (int mode = 0; mode < 3; mode++) {
            CHECK.same("rule", Bench.rule(x, GREATEST, mode), mode);
            CHECK.same("the most that nine places give", x.states(mode), 512);
            CHECK.same("the last state stands", x.winner(mode, 511) == -1 && x.next(mode, 511, 0) == -1 ? 0 : 1, 1);
            CHECK.same("no state 512", x.next(mode, 512, 1), -1);
            CHECK.same("distance", x.distance(mode), 9);
        }
        CHECK.same("differ", x.differ(0, 2), -1);
        CHECK.same("nine letters", Bench.winnerOf(x, 2, "baaaaaaaa"), 2);
        CHECK.same("eighteen letters", Bench.winnerOf(x, 1, "bbaaaaaaaabbaaaaaaaa"), 1);
        CHECK.same("not before", Bench.winnerOf(x, 1, "baaaaaaa"), -1);
    }

    private static void nextLetters() {
        CHECK.of("next: by a letter (0 .. 5)");
        TokenBench x = Bench.with("a", "b", "c", "d", "e", "f");
        for (int letter = 0; letter <= 5; letter++) {
            CHECK.same("letter " + letter, x.next(0, 0, letter), letter + 1);
        }
        TokenBench y = Bench.with(".+");
        for (int letter : new int[] {-1, 6, 7, -6, LEAST, MOST}) {
            CHECK.same("letter " + letter + " of state 0", y.next(0, 0, letter), -1);
            CHECK.same("letter " + letter + " of state 1", y.next(0, 1, letter), -1);
        }
    }

    private static void nextNotLive() {
        CHECK.of("next: NONE if the words are not live then");
        TokenBench x = Bench.with("ab");
        CHECK.same("b", x.next(0, 0, 1), -1);
        CHECK.same("aa", x.next(0, 1, 0), -1);
        for (int letter = 0; letter < 6; letter++) {
            CHECK.same("behind ab", x.next(0, 2, letter), -1);
        }
    }

    private static void nextNoSuch() {
        CHECK.of("next: NONE if .. there is no such mode, state or letter");
        TokenBench x = Bench.with(".+");
        for (int mode : NO_MODES) {
            CHECK.same("mode " + mode, x.next(mode, 0, 0), -1);
        }
        for (int state : new int[] {-1, 2, 3, 512, LEAST, MOST, MOST / 6 + 1, LEAST / 6}) {
            CHECK.same("state " + state, x.next(0, state, 0), -1);
        }
        CHECK.same("state 1 of a mode without rules", x.next(1, 1, 0), -1);
        CHECK.same("the last state", x.next(0, 1, 5), 1);
    }

    private static void winnerNoSuch() {
        CHECK.of("winner: NONE if they have none, or there is no such mode or state");
        TokenBench x = Bench.with("ab", "b");
        CHECK.same("state 0", x.winner(0, 0), -1);
        CHECK.same("state of a", x.winner(0, 1), -1);
        CHECK.same("state of b", x.winner(0, 2), 1);
        CHECK.same("the last state", x.winner(0, 3), 0);
        for (int state : new int[] {-1, 4, 512, LEAST, MOST}) {
            CHECK.same("state " + state, x.winner(0, state), -1);
        }
        for (int mode : NO_MODES) {
            CHECK.same("mode " + mode, x.winner(mode, 2), -1);
        }
        CHECK.same("a mode without rules", x.winner(1, 2), -1);
    }

    private static void distanceOfNoMode() {
        CHECK.of("distance: -2 if there is no such mode");
        TokenBench x = Bench.with("a", "ab*c");
        for (int mode : NO_MODES) {
            CHECK.same("mode " + mode, x.distance(mode), -2);
        }
        CHECK.same("no greatest is another answer", x.distance(0), -1);
        CHECK.same("a mode without rules", x.distance(2), 0);
    }

    private static void neverNoSuch() {
        CHECK.of("never: false if there is none such");
        TokenBench x = Bench.with("a", "a");
        CHECK.no("never 0", x.never(0));
        CHECK.yes("never 1", x.never(1));
        for (int rule : new int[] {-1, 2, 15, 16, LEAST, MOST}) {
            CHECK.no("never " + rule, x.never(rule));
        }
        CHECK.same("a refused rule", Bench.rule(x, "a", 3), -1);
        CHECK.no("never of it", x.never(2));
        Bench.rule(x, "a", 1);
        CHECK.no("never of a rule of another mode", x.never(2));
        Bench.rule(x, "a", 1);
        CHECK.yes("never of the second there", x.never(3));
    }

    private static void differNone() {
        CHECK.of("differ: NONE if there is none");
        TokenBench x = new TokenBench();
        CHECK.same("two modes without rules", x.differ(0, 1), -1);
        Bench.rule(x, "a*", 0);
        Bench.rule(x, "a+", 1);
        CHECK.same("they differ in the empty word alone, which has no winner", x.differ(0, 1), -1);
        Bench.rule(x, "aa", 1);
        CHECK.same("other winners of the same words", x.differ(0, 1), -1);
        for (int mode = 0; mode < 3; mode++) {
            CHECK.same("a mode and itself", x.differ(mode, mode), -1);
        }
    }

    private static void differNoSuchModes() {
        CHECK.of("differ: NONE if there .. are no such modes");
        TokenBench x = Bench.with("a");
        CHECK.same("0 and 1", x.differ(0, 1), 1);
        for (int mode : NO_MODES) {
            CHECK.same("0 and " + mode, x.differ(0, mode), -1);
            CHECK.same(mode + " and 0", x.differ(mode, 0), -1);
            CHECK.same(mode + " twice", x.differ(mode, mode), -1);
            CHECK.same("letter of 0 and " + mode, x.differing(0, mode, 0), -1);
            CHECK.same("letter of " + mode + " and 0", x.differing(mode, 0, 0), -1);
        }
        CHECK.same("0 and 1 still", x.differ(0, 1), 1);
    }

    private static void differEdges() {
        CHECK.of("differ: The length of the shortest word that has a winner in just one of two modes");
        TokenBench x = new TokenBench();
        Bench.rule(x, "f", 0);
        CHECK.same("the least length", x.differ(0, 1), 1);
        CHECK.same("the other way round", x.differ(1, 0), 1);
        Bench.rule(x, "f|abcdefab", 1);
        CHECK.same("eight", x.differ(0, 1), 8);
        Bench.rule(x, "f|abcdefa", 2);
        CHECK.same("seven is shorter than eight", x.differ(1, 2), 7);
        CHECK.same("0 and 2", x.differ(0, 2), 7);
        CHECK.same("0 and 1 again", x.differ(0, 1), 8);
        CHECK.same("0 and itself", x.differ(0, 0), -1);
        TokenBench y = new TokenBench();
        Bench.rule(y, "(aaaa|aaaaa)+", 0);
        Bench.rule(y, "(aaaa|aaaaa)+", 1);
        CHECK.same("the same", y.differ(0, 1), -1);
        TokenBench z = new TokenBench();
        Bench.rule(z, "(aaaa|aaaaa)*", 0);
        Bench.rule(z, "(aaaa)*(aaaaa)?", 1);
        CHECK.same("more letters than places", z.differ(0, 1), 10);
    }

    private static void differingFirstInABook() {
        CHECK.of("of several such words that which is first in a book");
        TokenBench x = new TokenBench();
        Bench.rule(x, "fa|bf|be|c.", 0);
        CHECK.text("be", Bench.difference(x, 0, 1), "be");
        Bench.rule(x, "be|ad", 1);
        CHECK.text("ad, which the other mode has", Bench.difference(x, 0, 1), "ad");
        CHECK.text("ad, the other way round", Bench.difference(x, 1, 0), "ad");
        Bench.rule(x, "f", 2);
        CHECK.same("letter 0 of two other modes", x.differing(2, 1, 0), 5);
        CHECK.text("the shortest goes before the first in a book", Bench.difference(x, 0, 2), "f");
    }

    private static void differingBehindAState0() {
        CHECK.of("that word");
        TokenBench x = new TokenBench();
        Bench.rule(x, "b|a[bc]", 0);
        Bench.rule(x, "a*b", 1);
        CHECK.text("one mode is at its beginning again", Bench.difference(x, 0, 1), "ac");
        CHECK.text("the other way round", Bench.difference(x, 1, 0), "ac");
    }

    private static void differingNoLetter() {
        CHECK.of("differing: NONE if there is no word, or it has no letter i");
        TokenBench x = Bench.with("fedcba");
        int[] due = {5, 4, 3, 2, 1, 0};
        for (int i = 0; i < due.length; i++) {
            CHECK.same("letter " + i, x.differing(0, 1, i), due[i]);
        }
        for (int i : new int[] {-1, 6, 7, LEAST, MOST}) {
            CHECK.same("letter " + i, x.differing(0, 1, i), -1);
            CHECK.same("letter " + i + " of no word", x.differing(1, 2, i), -1);
        }
        CHECK.same("letter 0 of no word", x.differing(1, 2, 0), -1);
        CHECK.same("letter 0 of a mode and itself", x.differing(0, 0, 0), -1);
    }

    private static void differingMost() {
        CHECK.of("Letter i of that word, from 0 on");
        TokenBench x = new TokenBench();
        Bench.rule(x, GREATEST, 0);
        Bench.rule(x, "(b+.......)+", 1);
        CHECK.text("of the greatest machines", Bench.difference(x, 0, 1), "baaaaaaa");
        Bench.rule(x, "(b+........)+", 2);
        CHECK.same("none of two such", x.differ(2, 0), -1);
        CHECK.same("its letter", x.differing(2, 0, 0), -1);
        CHECK.same("the first pair again", x.differing(1, 0, 0), 1);
    }

    private static void differLong() {
        CHECK.of("The length of the shortest word");
        TokenBench x = new TokenBench();
        Bench.rule(x, GREATEST, 0);
        Bench.rule(x, "b+........", 1);
        CHECK.same("states of one", x.states(0), 512);
        CHECK.same("the first that goes round twice", x.differ(0, 1), 18);
        CHECK.text("its letters", Bench.difference(x, 0, 1), "baaaaaaaabaaaaaaaa");
        CHECK.text("the other way round", Bench.difference(x, 1, 0), "baaaaaaaabaaaaaaaa");
        CHECK.same("no letter 18", x.differing(1, 0, 18), -1);
    }
}
