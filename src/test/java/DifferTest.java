import java.util.Objects;

/** Promises 9 (differ) and 10 (differing). */
public final class DifferTest {
    private static final Check CHECK = new Check();
    private static final String NO_RULE = "";

    public static void main(String[] args) {
        due(null, "a", "a");
        due(null, "(a|b)*abb", "[ab]*abb");
        due(null, "a+", "aa*");
        due(null, "a*", "a+");
        due("a", "a", "b");
        due("b", "a|b", "a");
        due("b", "a", "a|b");
        due("aa", "a", "a+");
        due("ab", "[ab]*abb", "[ab]*abb?");
        due("ad", "ad|ae|b", "b|ae");
        due("ae", "ae|bd", NO_RULE);
        due("aaaaaaaaa", "aaaaaaaaa", NO_RULE);
        due("f", "[a-e]", ".");
        winnersNeedNotBeTheSame();
        aLongWord();
        manyPairs();
        lettersOutside();
        noSuchModes();
        rulesInBetween();
        CHECK.close();
    }

    private static void same(String what, String got, String due) {
        CHECK.yes(what + ": " + got + ", due is " + due, Objects.equals(got, due));
    }

    private static void due(String word, String one, String other) {
        TokenBench x = new TokenBench();
        Bench.rule(x, one, 0);
        Bench.rule(x, other, 2);
        same(one + " and " + other, Bench.difference(x, 0, 2), word);
        same(other + " and " + one, Bench.difference(x, 2, 0), word);
        same(one + " and itself", Bench.difference(x, 0, 0), null);
    }

    private static void winnersNeedNotBeTheSame() {
        TokenBench x = new TokenBench();
        Bench.rule(x, "a", 0);
        Bench.rule(x, "[ab]+", 0);
        Bench.rule(x, "bb", 1);
        Bench.rule(x, "[ab]+", 1);
        same("cut into other rules", Bench.difference(x, 0, 1), null);
    }

    private static void aLongWord() {
        TokenBench x = new TokenBench();
        Bench.rule(x, "(aa)*a", 0);
        Bench.rule(x, "(aaa)*aa?", 0);
        Bench.rule(x, "a+", 1);
        same("all but each sixth", Bench.difference(x, 0, 1), "aaaaaa");
    }

    private static void manyPairs() {
        TokenBench x = new TokenBench();
        Bench.rule(x, ".*a......", 0);
        Bench.rule(x, ".+", 0);
        Bench.rule(x, ".*b......", 1);
        Bench.rule(x, ".+", 1);
        same("all words", Bench.difference(x, 0, 1), null);
        Bench.rule(x, ".*a.......", 2);
        same("some words", Bench.difference(x, 1, 2), "a");
    }

    private static void lettersOutside() {
        TokenBench x = new TokenBench();
        Bench.rule(x, "fedc", 0);
        CHECK.same("length", x.differ(0, 1), 4);
        int[] due = {5, 4, 3, 2};
        for (int i = 3; i >= 0; i--) {
            CHECK.same("letter " + i, x.differing(0, 1, i), due[i]);
        }
        for (int i : new int[] {-1, 4, Integer.MIN_VALUE, Integer.MAX_VALUE}) {
            CHECK.same("letter " + i, x.differing(0, 1, i), -1);
        }
        CHECK.same("no word", x.differ(1, 2), -1);
        CHECK.same("no word's letter", x.differing(1, 2, 0), -1);
    }

    private static void noSuchModes() {
        TokenBench x = Bench.with("a");
        for (int mode : new int[] {-1, 3, Integer.MIN_VALUE, Integer.MAX_VALUE}) {
            CHECK.same("differ of 0 and " + mode, x.differ(0, mode), -1);
            CHECK.same("differ of " + mode + " and 0", x.differ(mode, 0), -1);
            CHECK.same("differ of " + mode + " twice", x.differ(mode, mode), -1);
            CHECK.same("differing of 0 and " + mode, x.differing(0, mode, 0), -1);
            CHECK.same("differing of " + mode + " and 0", x.differing(mode, 0, 0), -1);
            CHECK.same("differing of " + mode + " twice", x.differing(mode, mode, 0), -1);
        }
    }

    private static void rulesInBetween() {
        TokenBench x = new TokenBench();
        Bench.rule(x, "ab", 0);
        same("ab", Bench.difference(x, 0, 1), "ab");
        Bench.rule(x, "ab", 1);
        same("ab in both", Bench.difference(x, 0, 1), null);
        Bench.rule(x, "c", 0);
        same("c too", Bench.difference(x, 0, 1), "c");
        CHECK.same("0 and 2", x.differing(0, 2, 0), 2);
        CHECK.same("1 and 2", x.differing(1, 2, 1), 1);
        CHECK.same("0 and 1", x.differing(0, 1, 0), 2);
    }
}
