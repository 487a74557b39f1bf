/** Promises 2 (type) and 3 (rule). */
public final class RuleTextTest {
    private static final Check CHECK = new Check();

    public static void main(String[] args) {
        typeTakesTheLowestBytes();
        typeRefuses();
        rightTexts();
        wrongTexts();
        tapeIsEmptyThen();
        placesOfAMode();
        sixteenRules();
        wrongModeOrAction();
        streamUnderWay();
        wrongTextIsToldFirst();
        CHECK.close();
    }

    private static void typeTakesTheLowestBytes() {
        TokenBench x = new TokenBench();
        CHECK.yes("type of one byte", x.type(0x7a7a7a7a7a7a7a61L, 1));
        CHECK.yes("type of two bytes", x.type(0x7a6263L, 2));
        CHECK.same("rule abc", x.rule(0, 0), 0);
        CHECK.same("winner of abc", Bench.winnerOf(x, 0, "abc"), 0);
        CHECK.same("states of abc", x.states(0), 4);
        x.type(0xffL, 1);
        CHECK.same("a byte of 255", x.rule(0, 0), -2);
        x.type(0xff61626364656667L, 8);
        CHECK.same("a highest byte of 255", x.rule(0, 0), -2);
        x.type(0x61ff000000000000L, 8);
        CHECK.same("eight bytes", x.rule(0, 0), -3);
        x.type(0x6100L, 2);
        CHECK.same("a byte of 0", x.rule(0, 0), -3);
    }

    private static void typeRefuses() {
        TokenBench x = new TokenBench();
        CHECK.no("type 0", x.type('a', 0));
        CHECK.no("type -1", x.type('a', -1));
        CHECK.no("type 9", x.type('a', 9));
        CHECK.no("type least", x.type('a', Integer.MIN_VALUE));
        CHECK.no("type most", x.type('a', Integer.MAX_VALUE));
        CHECK.same("nothing was typed", x.rule(0, 0), -2);
        CHECK.yes("twenty", Bench.type(x, "(a|bcde*******|(f|a))"));
        CHECK.no("four more than 21", x.type(Bench.packed("****"), 4));
        CHECK.yes("24 characters", x.type(Bench.packed("+*?"), 3));
        CHECK.no("a 25th", x.type('*', 1));
        CHECK.same("the text of 24", x.rule(0, 0), 0);
        CHECK.same("winner of bcd", Bench.winnerOf(x, 0, "bcd"), 0);
        CHECK.yes("the tape is free again", Bench.type(x, "aaaaaaaaaaaaaaaaaaaaaaaa"));
        CHECK.same("24 places", x.rule(1, 0), -1);
    }

    private static void right(String text, String matched, String unmatched) {
        TokenBench x = new TokenBench();
        CHECK.same("rule " + text, Bench.rule(x, text, 1), 0);
        for (String word : matched.split(" ")) {
            CHECK.same(text + " on " + word, Bench.winnerOf(x, 1, word), 0);
        }
        for (String word : unmatched.split(" ")) {
            CHECK.same(text + " on " + word, Bench.winnerOf(x, 1, word), -1);
        }
    }

    private static void rightTexts() {
        right("a", "a", "b aa");
        right(".", "a b c d e f", "aa");
        right("ab|c", "ab c", "a b ac abc");
        right("a|b|cd", "a b cd", "c d ab");
        right("ab*", "a ab abb", "b aba abab");
        right("(ab)*", "ab abab", "a aba b");
        right("ab+", "ab abb", "a b abab");
        right("ab?c", "ac abc", "a ab abbc");
        right("a**", "a aa", "b");
        right("(a+)?b", "b ab aab", "a");
        right("a+?b", "b ab aab", "a");
        right("a?*b", "b ab aab", "a");
        right("a?+b", "b ab aab", "a");
        right("a*+?c", "c ac aac", "a");
        right("[ace]", "a c e", "b d f");
        right("[b-d]", "b c d", "a e f");
        right("[a-a]", "a", "b");
        right("[ac-ef]", "a c d e f", "b");
        right("[a-bd-e]", "a b d e", "c f");
        right("[abca]", "a b c", "d");
        right("[^a]", "b c d e f", "a");
        right("[^b-e]", "a f", "b c d e");
        right("[^a-e]", "f", "a e");
        right("[a-f]", "a f", "ab");
        right("((((a))))", "a", "b");
        right("(a)(b)(c)(d)(e)(f)", "abcdef", "abc");
        right("((a)|((b)))(((c)))", "ac bc", "a b c");
        right("(a|b)*abb", "abb aabb babb abbabb", "ab abba");
        right("(a*b*)*c", "c abc babac", "ab");
        right("(a|(b|(c|(d|e))))f", "af bf ef", "f ff");
        right("a(b|c*)d", "ad abd acd accd", "abcd abbd");
    }

    private static void wrong(String text, int place) {
        TokenBench x = new TokenBench();
        CHECK.same("rule " + text, Bench.rule(x, text, 0), -2 - place);
        CHECK.same("states after " + text, x.states(0), 1);
        CHECK.same("the rule after " + text, Bench.rule(x, "a", 0), 0);
    }

    private static void wrongTexts() {
        wrong("", 0);
        wrong("g", 0);
        wrong("A", 0);
        wrong("`", 0);
        wrong(" a", 0);
        wrong("a b", 1);
        wrong("\u0000", 0);
        wrong("a\u00e1", 1);
        wrong("*", 0);
        wrong("+a", 0);
        wrong("?", 0);
        wrong("|a", 0);
        wrong("a|", 2);
        wrong("a||b", 2);
        wrong("a|*", 2);
        wrong(")", 0);
        wrong("a)", 1);
        wrong("()", 1);
        wrong("(", 1);
        wrong("(a", 2);
        wrong("(a|", 3);
        wrong("(a|)", 3);
        wrong("(|a)", 1);
        wrong("(*a)", 1);
        wrong("(a))", 3);
        wrong("((((a)))", 8);
        wrong("(((((a)))))", 4);
        wrong("(a)((((", 7);
        wrong("(a)(((((", 7);
        wrong("-", 0);
        wrong("a-b", 1);
        wrong("^a", 0);
        wrong("]", 0);
        wrong("a]", 1);
        wrong("[", 1);
        wrong("[]", 1);
        wrong("[]a]", 1);
        wrong("[^", 2);
        wrong("[^]", 2);
        wrong("[^^a]", 2);
        wrong("[a^]", 2);
        wrong("[-a]", 1);
        wrong("[^-a]", 2);
        wrong("[a-]", 3);
        wrong("[a-", 3);
        wrong("[a--b]", 3);
        wrong("[a-c-e]", 4);
        wrong("[b-a]", 3);
        wrong("[ab-a]", 4);
        wrong("[a-g]", 3);
        wrong("[g]", 1);
        wrong("[.]", 1);
        wrong("[a|b]", 2);
        wrong("[a*]", 2);
        wrong("[[a]]", 1);
        wrong("[(a)]", 1);
        wrong("[a", 2);
        wrong("[a-b", 4);
        wrong("[^a-f]", 5);
        wrong("[^a-f", 5);
        wrong("[^abcdef]", 8);
        wrong("[^a-fa]", 6);
        wrong("[^a-cd-f]a", 8);
        wrong("aaaaaaaaaaaaaaaaaaaaaaa|", 24);
        wrong("aaaaaaaaaaaaaaaaaaaaaaa)", 23);
    }

    private static void tapeIsEmptyThen() {
        TokenBench x = new TokenBench();
        Bench.rule(x, "a*", 0);
        CHECK.same("behind a rule", x.rule(0, 0), -2);
        Bench.rule(x, "a)", 0);
        CHECK.same("behind a wrong text", x.rule(0, 0), -2);
        Bench.rule(x, "a", 3);
        CHECK.same("behind a wrong mode", x.rule(0, 0), -2);
        x.begin(0);
        Bench.rule(x, "a", 0);
        CHECK.same("behind a stream under way", x.rule(0, 0), -2);
    }

    private static void placesOfAMode() {
        TokenBench x = new TokenBench();
        CHECK.same("ten places", Bench.rule(x, "abcdefabcd", 0), -1);
        CHECK.same("nine places", Bench.rule(x, "a.[ab][^c]((d)e)*f+|b|c", 0), 0);
        CHECK.same("one more", Bench.rule(x, "a", 0), -1);
        CHECK.same("in another mode", Bench.rule(x, "[a-f][abc][^ab]", 1), 1);
        CHECK.same("six more there", Bench.rule(x, "......", 1), 2);
        CHECK.same("a tenth there", Bench.rule(x, "[a]", 1), -1);
        CHECK.same("refused rules change nothing", x.states(1), Bench.with("[a-f][abc][^ab]", "......").states(0));
        CHECK.same("two rules in all, and a third", Bench.rule(x, "a", 2), 3);
    }

    private static void sixteenRules() {
        TokenBench x = new TokenBench();
        for (int i = 0; i < 16; i++) {
            CHECK.same("rule " + i, Bench.rule(x, "" + (char) ('a' + i % 6), i % 3), i);
        }
        CHECK.same("a 17th", Bench.rule(x, "a", 2), -1);
        CHECK.same("a 17th wrong one", Bench.rule(x, "a(", 2), -4);
    }

    private static void wrongModeOrAction() {
        TokenBench x = new TokenBench();
        for (int mode : new int[] {-1, 3, Integer.MIN_VALUE, Integer.MAX_VALUE}) {
            CHECK.same("mode " + mode, Bench.rule(x, "a", mode), -1);
        }
        for (int action : new int[] {-1, 5, Integer.MIN_VALUE, Integer.MAX_VALUE}) {
            CHECK.same("action " + action, Bench.rule(x, "a", 0, action), -1);
        }
        for (int action = 0; action <= 4; action++) {
            CHECK.same("action " + action, Bench.rule(x, "a", 0, action), action);
        }
    }

    private static void streamUnderWay() {
        TokenBench x = Bench.with("a");
        x.begin(1);
        CHECK.same("a rule in a stream", Bench.rule(x, "b", 0), -1);
        CHECK.same("a rule in a stream, of its mode", Bench.rule(x, "b", 1), -1);
        x.end();
        CHECK.same("a rule behind a stream", Bench.rule(x, "b", 0), 1);
        CHECK.same("the new rule's winner", Bench.winnerOf(x, 0, "b"), 1);
    }

    private static void wrongTextIsToldFirst() {
        TokenBench x = new TokenBench();
        CHECK.same("wrong text and mode", Bench.rule(x, "ab(", 3, 0), -5);
        CHECK.same("wrong text and action", Bench.rule(x, "ab)", 0, 9), -4);
        CHECK.same("wrong text of too many places", Bench.rule(x, "aaaaaaaaaaaa*b|", 0, 0), -17);
        x.begin(0);
        CHECK.same("wrong text in a stream", Bench.rule(x, "|", 0, 0), -2);
    }
}
