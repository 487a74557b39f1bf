/**
 * The edges of rules and their texts: a method for each sentence of "Terms", of promise 1 (a new
 * object), 2 (type) and 3 (rule) that names one.
 */
public final class TextEdgesTest {
    private static final int LEAST = Integer.MIN_VALUE;
    private static final int MOST = Integer.MAX_VALUE;
    private static final int[] NO_MODES = {-1, 3, -2, 4, LEAST, MOST};
    private static final int[] NO_ACTIONS = {-1, 5, -2, 6, LEAST, MOST};
    /** 24 characters, nine places. */
    private static final String LONGEST = "(a|b)*(c|d)?(e|f)+[a-c].";

    private static final Check CHECK = new Check();

    public static void main(String[] args) {
        letters();
        modes();
        sixteenRules();
        actions();
        textOf24();
        sequencesOfOneAtLeast();
        signsNoneOrSeveral();
        rangesNotBackwards();
        setsOfOneAtLeast();
        caretAhead();
        noOthers();
        fourInEachOther();
        ninePlaces();
        repeated();

        emptyTapeOfANewObject();
        typeOneToEight();
        typeAnotherN();
        typeMoreThan24();
        typeHighestFirst();

        tapeIsEmptyWhateverComes();
        nothingIsLeftOfAWrongText();
        firstWrongCharacter();
        lengthIfOneIsMissing();
        noneForEachCause();
        streamUnderWay();
        wrongTextIsToldFirst();
        CHECK.close();
    }

    private static void accepted(String text) {
        CHECK.same("rule " + text, Bench.rule(new TokenBench(), text, 0), 0);
    }

    private static void wrong(String text, int place) {
        CHECK.same("rule " + text, Bench.rule(new TokenBench(), text, 0), -2 - place);
    }

    private static void wins(String text, String... words) {
        TokenBench x = Bench.with(text);
        for (String word : words) {
            CHECK.same(text + " on " + word, Bench.winnerOf(x, 0, word), 0);
        }
    }

    private static void loses(String text, String... words) {
        TokenBench x = Bench.with(text);
        for (String word : words) {
            CHECK.same(text + " on " + word, Bench.winnerOf(x, 0, word), -1);
        }
    }

    private static void letters() {
        CHECK.of("LETTERS are a .. f, with the numbers 0 .. 5");
        accepted("a");
        accepted("f");
        wrong("`", 0);
        wrong("g", 0);
        wrong("A", 0);
        wrong("F", 0);
        accepted("[a]");
        accepted("[f]");
        wrong("[`]", 1);
        wrong("[g]", 1);
        wrong("[`-a]", 1);
        wrong("[f-g]", 3);
        for (int number = 0; number <= 5; number++) {
            TokenBench x = Bench.with("" + (char) ('a' + number));
            for (int letter = -1; letter <= 6; letter++) {
                CHECK.same("letter " + letter, x.next(0, 0, letter), letter == number ? 1 : -1);
            }
        }
        TokenBench any = Bench.with(".");
        for (int letter = -1; letter <= 6; letter++) {
            CHECK.same("any letter, " + letter, any.next(0, 0, letter), letter >= 0 && letter <= 5 ? 1 : -1);
        }
    }

    private static void modes() {
        CHECK.of("MODES are 0, 1, 2");
        for (int mode = 0; mode <= 2; mode++) {
            TokenBench x = new TokenBench();
            CHECK.same("rule of mode " + mode, Bench.rule(x, "a", mode), 0);
            CHECK.same("states " + mode, x.states(mode), 2);
            CHECK.same("next " + mode, x.next(mode, 0, 0), 1);
            CHECK.same("winner " + mode, x.winner(mode, 1), 0);
            CHECK.same("distance " + mode, x.distance(mode), 0);
            CHECK.same("differ " + mode, x.differ(mode, (mode + 1) % 3), 1);
            CHECK.same("differing " + mode, x.differing((mode + 1) % 3, mode, 0), 0);
            CHECK.yes("begin " + mode, x.begin(mode));
            CHECK.same("stream 1", x.stream(1), mode);
        }
        TokenBench x = Bench.with("a");
        for (int mode : NO_MODES) {
            CHECK.same("rule of mode " + mode, Bench.rule(x, "b", mode), -1);
            CHECK.same("states " + mode, x.states(mode), -1);
            CHECK.same("next " + mode, x.next(mode, 0, 0), -1);
            CHECK.same("winner " + mode, x.winner(mode, 1), -1);
            CHECK.same("distance " + mode, x.distance(mode), -2);
            CHECK.same("differ " + mode, x.differ(mode, 0), -1);
            CHECK.same("differing " + mode, x.differing(0, mode, 0), -1);
            CHECK.no("begin " + mode, x.begin(mode));
        }
    }

    private static void sixteenRules() {
        CHECK.of("At most 16 RULES, numbered 0, 1, .. as they come");
        TokenBench x = new TokenBench();
        for (int i = 0; i < 15; i++) {
            CHECK.same("a refused one", Bench.rule(x, "a", 3), -1);
            CHECK.same("a wrong one", Bench.rule(x, "a(", i % 3), -4);
            CHECK.same("rule " + i, Bench.rule(x, i < 3 ? "a" : "ab".substring(i % 2, i % 2 + 1), i % 3), i);
        }
        CHECK.no("never 15, before it is there", x.never(15));
        CHECK.same("the 16th", Bench.rule(x, "a", 0), 15);
        CHECK.yes("never 15", x.never(15));
        for (int mode = 0; mode <= 2; mode++) {
            int states = x.states(mode);
            CHECK.same("a 17th in mode " + mode, Bench.rule(x, "c", mode), -1);
            CHECK.same("states " + mode, x.states(mode), states);
        }
        CHECK.no("never 16", x.never(16));
    }

    private static void actions() {
        CHECK.of("an ACTION (0 none, 1 .. 3: it ENTERS mode 0 .. 2, 4: it LEAVES)");
        for (int mode = 0; mode <= 2; mode++) {
            for (int action = 0; action <= 4; action++) {
                TokenBench x = new TokenBench();
                CHECK.same("rule of action " + action, Bench.rule(x, "a", mode, action), 0);
                x.begin(mode);
                Bench.feed(x, "a");
                boolean enters = action >= 1 && action <= 3;
                CHECK.same("mode behind action " + action, x.stream(1), enters ? action - 1 : mode);
                CHECK.same("kept behind action " + action, x.stream(2), enters ? 1 : 0);
            }
        }
        for (int action : NO_ACTIONS) {
            CHECK.same("action " + action, Bench.rule(new TokenBench(), "a", 0, action), -1);
        }
    }

    private static void textOf24() {
        CHECK.of("a text of at most 24 characters");
        TokenBench x = new TokenBench();
        CHECK.same("characters", LONGEST.length(), 24);
        CHECK.yes("24 typed", Bench.type(x, LONGEST));
        CHECK.no("one more", x.type('*', 1));
        CHECK.same("rule of 24", x.rule(0, 0), 0);
        CHECK.same("its winner", Bench.winnerOf(x, 0, "abcefaf"), 0);
        CHECK.same("no winner without its last place", Bench.winnerOf(x, 0, "cea"), -1);
    }

    private static void sequencesOfOneAtLeast() {
        CHECK.of("a SEQUENCE: PARTS, one at least");
        wrong("", 0);
        wrong("|", 0);
        wrong("|a", 0);
        wrong("a|", 2);
        wrong("a||b", 2);
        wrong("()", 1);
        wrong("a()", 2);
        wrong("(|a)", 1);
        wrong("(a|)", 3);
        wrong("(a||b)", 3);
        wrong("(())", 2);
        accepted("a|b");
        accepted("(a|b)");
    }

    private static void signsNoneOrSeveral() {
        CHECK.of("a PART: an ATOM, and behind it any of *, +, ? (none or several)");
        accepted("a");
        accepted("a*");
        accepted("a***********************");
        accepted("a+?*+?*+?*+?*+?*+?*+?*+?");
        wins("a++", "a", "aa", "aaa");
        wins("a??b", "b", "ab");
        loses("a??b", "aab");
        wins("ba+?", "b", "ba", "baa");
        wins("ba?+", "b", "ba", "baa");
        wins("ba*?", "b", "ba", "baa");
        wins("ba++", "ba", "baa");
        loses("ba++", "b");
        wrong("*", 0);
        wrong("+", 0);
        wrong("?", 0);
        wrong("a|*", 2);
        wrong("(*", 1);
        wrong("(+a)", 1);
        wrong("(a|?)", 3);
    }

    private static void rangesNotBackwards() {
        CHECK.of("letters with - between (all from the first to the second, which is not before it)");
        wins("[c-c]", "c");
        loses("[c-c]", "b", "d");
        wins("[b-c]", "b", "c");
        loses("[b-c]", "a", "d");
        wins("[a-f]", "a", "b", "c", "d", "e", "f");
        wins("[a-bd-d]", "a", "b", "d");
        loses("[a-bd-d]", "c", "e", "f");
        wrong("[c-b]", 3);
        wrong("[f-a]", 3);
        wrong("[b-a", 3);
        wrong("[a-cb-a]", 6);
        wrong("[^b-a]", 4);
        wrong("[-", 1);
        wrong("[^-", 2);
        wrong("[a-]", 3);
        wrong("[a--b]", 3);
        wrong("[a-b-c]", 4);
        wrong("[a][-b]", 4);
        wrong("[a-b][-b]", 6);
        accepted("[a-bc-d]");
    }

    private static void setsOfOneAtLeast() {
        CHECK.of("[ with letters, .. one at least");
        wrong("[]", 1);
        wrong("[]a]", 1);
        wrong("[^]", 2);
        accepted("[a]");
        accepted("[^a]");
        accepted("[abcdefabcdefabcdefabcd]");
        wrong("[[", 1);
        wrong("[.", 1);
        wrong("[a.", 2);
        wrong("[(", 1);
        wrong("[a|", 2);
        wrong("[a*", 2);
    }

    private static void caretAhead() {
        CHECK.of("a ^ perhaps ahead of them (all others)");
        wins("[^a]", "b", "c", "d", "e", "f");
        loses("[^a]", "a");
        wins("[^b-e]", "a", "f");
        loses("[^b-e]", "b", "c", "d", "e");
        wrong("[^^", 2);
        wrong("[a^", 2);
        wrong("[a-^", 3);
        wrong("^", 0);
        wrong("a^", 1);
    }

    private static void noOthers() {
        CHECK.of("if there are none, the ] can not stand there");
        wins("[^a-e]", "f");
        wins("[^b-f]", "a");
        wrong("[^a-f]", 5);
        wrong("[^abcdef]", 8);
        wrong("[^a-cd-f]", 8);
        wrong("[^fa-e]", 6);
        wrong("a[^a-f]b", 6);
        wrong("[^a-fa", 6);
        wrong("[^a-fab]", 7);
        accepted("[a-f]");
        accepted("[abcdef]");
    }

    private static void fourInEachOther() {
        CHECK.of("( CHOICE ), at most 4 in each other");
        accepted("((((a))))");
        accepted("(a)(a)(a)(a)(a)(a)");
        accepted("((((a))))((((b))))");
        accepted("((((a)(b))(c))(d))");
        wins("a(b(c(d(e))))", "abcde");
        loses("a(b(c(d(e))))", "aabcde", "e", "abcdabcde", "ade");
        wrong("(((((a)))))", 4);
        wrong("(((((", 4);
        wrong("((((a))))(((((b", 13);
        wrong("((((a)(b)((c", 10);
        wrong("a|b(((c|(((", 9);
    }

    private static void ninePlaces() {
        CHECK.of("Its PLACES are its letters, dots and sets; all rules of a mode together have at most 9");
        TokenBench x = new TokenBench();
        CHECK.same("ten letters", Bench.rule(x, "abcdefabcd", 0), -1);
        CHECK.same("ten dots", Bench.rule(x, "..........", 0), -1);
        CHECK.same("six sets and four letters", Bench.rule(x, "[a][b][c][d][e][f]aaaa", 0), -1);
        CHECK.same("states of no rule", x.states(0), 1);
        CHECK.same("nine of all kinds", Bench.rule(x, "(a+.*[a-f]?)|bcd|[^a]..", 0), 0);
        CHECK.same("a tenth", Bench.rule(x, "a", 0), -1);
        CHECK.same("eight in mode 1", Bench.rule(x, "abcdefab", 1), 1);
        CHECK.same("two more there", Bench.rule(x, "ab", 1), -1);
        CHECK.same("a set of six letters there", Bench.rule(x, "[abcdef]", 1), 2);
        CHECK.same("a dot more there", Bench.rule(x, ".", 1), -1);
        for (int i = 0; i < 9; i++) {
            CHECK.same("rule of one place", Bench.rule(x, "(a)", 2), 3 + i);
        }
        CHECK.same("a tenth rule of one place", Bench.rule(x, "a", 2), -1);
        CHECK.same("24 places", Bench.rule(new TokenBench(), "aaaaaaaaaaaaaaaaaaaaaaaa", 0), -1);
        CHECK.same("nine of the greatest machine", Bench.rule(new TokenBench(), "(b+........)+", 0), 0);
    }

    private static void repeated() {
        CHECK.of("* any number of times, + at least once, ? at most once");
        wins("ba*", "b", "ba", "baa", "baaaaaaaaaaaaaaaaaaaaaaaaa");
        wins("ba+", "ba", "baa", "baaaaaaaaaaaaaaaaaaaaaaaaa");
        loses("ba+", "b");
        wins("ba?", "b", "ba");
        loses("ba?", "baa");
        wins("b(ac)*", "b", "bac", "bacac");
        loses("b(ac)*", "ba", "baca", "bacc");
        wins("b(ac?)+", "ba", "bac", "baac", "baca");
        loses("b(ac?)+", "b", "bc", "bacc");
        wins("(a?b?)+", "a", "b", "ab", "ba", "bba");
        wins("(a*|b)+c", "c", "abac", "bbc");
    }

    private static void emptyTapeOfANewObject() {
        CHECK.of("makes an object in the state that the terms give");
        TokenBench x = new TokenBench();
        CHECK.same("the tape is empty", x.rule(0, 0), -2);
        CHECK.yes("it takes 24", Bench.type(x, LONGEST));
        CHECK.same("the first rule", x.rule(0, 0), 0);
        TokenBench y = new TokenBench();
        CHECK.no("never 0", y.never(0));
        CHECK.same("no stream", y.stream(0), -1);
        CHECK.same("no token", y.ready(), 0);
    }

    private static void typeOneToEight() {
        CHECK.of("The n (1 .. 8) lowest bytes of word .. go to the tape: true");
        for (int n = 1; n <= 8; n++) {
            TokenBench x = new TokenBench();
            CHECK.yes("type of " + n, x.type(0x6161616161616161L, n));
            CHECK.same("rule of " + n, x.rule(0, 0), 0);
            CHECK.same("states of " + n, x.states(0), n + 1);
        }
    }

    private static void typeAnotherN() {
        CHECK.of("false, changing nothing, for another n");
        TokenBench x = new TokenBench();
        x.type('b', 1);
        for (int n : new int[] {0, 9, -1, 10, 24, 256, 257, LEAST, LEAST + 1, MOST, MOST - 1}) {
            CHECK.no("type of " + n, x.type(0x6161616161616161L, n));
        }
        CHECK.same("the rule", x.rule(0, 0), 0);
        CHECK.same("b alone is there", x.states(0), 2);
        CHECK.same("its winner", Bench.winnerOf(x, 0, "b"), 0);
    }

    private static void typeMoreThan24() {
        CHECK.of("false, changing nothing, .. if it would have more than 24");
        for (int n = 1; n <= 8; n++) {
            TokenBench x = new TokenBench();
            Bench.type(x, LONGEST.substring(0, 24 - n + 1));
            CHECK.no("25 with " + n, x.type(0x2a2a2a2a2a2a2a2aL, n));
            if (n > 1) {
                CHECK.yes("24 with " + (n - 1), x.type(Bench.packed(LONGEST.substring(24 - n + 1)), n - 1));
            }
            CHECK.no("one more", x.type('*', 1));
            CHECK.no("eight more", x.type(0x2a2a2a2a2a2a2a2aL, 8));
            CHECK.same("rule", x.rule(0, 0), 0);
            CHECK.same("the same machine", x.states(0), Bench.with(LONGEST).states(0));
        }
    }

    private static void typeHighestFirst() {
        CHECK.of("lowest bytes of word, the highest first");
        TokenBench x = new TokenBench();
        x.type(0xffffffffff616263L, 3);
        x.type(0x6465666162636465L, 6);
        CHECK.same("rule", x.rule(0, 0), 0);
        CHECK.same("its word", Bench.winnerOf(x, 0, "abcfabcde"), 0);
        x.type(0xff61616161616161L, 8);
        CHECK.same("a highest byte of 255", x.rule(1, 0), -2);
        x.type(0x61ff616161616161L, 8);
        CHECK.same("a second byte of 255", x.rule(1, 0), -3);
        x.type(0x6161616161616180L, 8);
        CHECK.same("a lowest byte of 128", x.rule(1, 0), -9);
        x.type(0x6100L, 2);
        CHECK.same("a byte of 0", x.rule(1, 0), -3);
        x.type(-1L, 1);
        CHECK.same("-1", x.rule(1, 0), -2);
    }

    private static void tapeIsEmptyWhateverComes() {
        CHECK.of("The tape (which is empty then, whatever comes of it)");
        TokenBench x = new TokenBench();
        CHECK.same("of an empty tape", x.rule(0, 0), -2);
        emptyNow("an empty tape", x);
        CHECK.same("a rule", Bench.rule(x, "a", 0), 0);
        emptyNow("a rule", x);
        CHECK.same("wrong", Bench.rule(x, "ab)cd", 0), -4);
        emptyNow("a wrong text", x);
        CHECK.same("missing", Bench.rule(x, "(a", 0), -4);
        emptyNow("a text that is not whole", x);
        CHECK.same("mode 3", Bench.rule(x, "a", 3), -1);
        emptyNow("another mode", x);
        CHECK.same("action 5", Bench.rule(x, "a", 0, 5), -1);
        emptyNow("another action", x);
        CHECK.same("nine more", Bench.rule(x, ".........", 0), -1);
        emptyNow("too many places", x);
        x.begin(0);
        CHECK.same("in a stream", Bench.rule(x, "a", 0), -1);
        emptyNow("a stream under way", x);
        x.end();
        for (int i = 1; i < 16; i++) {
            Bench.rule(x, "a", i % 3);
        }
        CHECK.same("a 17th", Bench.rule(x, "a", 0), -1);
        emptyNow("16 rules", x);
    }

    /** 24 characters find room, and the first of them is at place 0. */
    private static void emptyNow(String behind, TokenBench x) {
        CHECK.yes("room behind " + behind, Bench.type(x, "aaaaaaaaaaaaaaaaaaaaaaa)"));
        CHECK.same("the wrong place behind " + behind, x.rule(0, 0), -2 - 23);
    }

    private static void nothingIsLeftOfAWrongText() {
        CHECK.of("The tape (which is empty then, whatever comes of it) is the text of a new rule");
        String[] wrong = {"[", "[^", "[a", "[^a", "[a-", "[^a-", "[a-b", "[b-a", "[a^", "(", "((((", "(((((",
            "(a", "(a|", "a|", "a*|", "ab)", "[^a-f]", "g", ""};
        for (String text : wrong) {
            TokenBench x = new TokenBench();
            CHECK.yes(text + " is wrong", Bench.rule(x, text, 0) <= -2);
            CHECK.same("[b] behind " + text, Bench.rule(x, "[b]", 0), 0);
            CHECK.same("b", Bench.winnerOf(x, 0, "b"), 0);
            CHECK.same("its states", x.states(0), 2);
            CHECK.same("a", Bench.winnerOf(x, 0, "a"), -1);
            CHECK.same("c", Bench.winnerOf(x, 0, "c"), -1);
            Bench.rule(x, text, 1);
            CHECK.same("four in each other behind " + text, Bench.rule(x, "((((c))))", 1), 1);
            CHECK.same("its states", x.states(1), 2);
            Bench.rule(x, text, 2);
            CHECK.same("a - behind " + text, Bench.rule(x, "[-b]", 2), -3);
            CHECK.same("a * behind " + text, Bench.rule(x, "*", 2), -2);
            CHECK.same("a ) behind " + text, Bench.rule(x, "a)", 2), -3);
        }
    }

    private static void firstWrongCharacter() {
        CHECK.of("-2 less the place of the first character that can't stand there");
        wrong(")", 0);
        wrong("a)b)", 1);
        wrong("*g", 0);
        wrong("a]", 1);
        wrong("a-", 1);
        wrong("aaaaaaaaaaaaaaaaaaaaaaag", 23);
        wrong("(a))", 3);
        wrong("a b", 1);
        wrong("a\u0000", 1);
        wrong("\u00e1", 0);
        wrong("[^a-f]g", 5);
        wrong("(((((g", 4);
    }

    private static void lengthIfOneIsMissing() {
        CHECK.of("(the length if one is missing)");
        wrong("", 0);
        wrong("(", 1);
        wrong("[", 1);
        wrong("(a", 2);
        wrong("[a", 2);
        wrong("[^", 2);
        wrong("[a-", 3);
        wrong("[a-b", 4);
        wrong("a|", 2);
        wrong("(a|", 3);
        wrong("(a|b", 4);
        wrong("((a)", 4);
        wrong("[^a-f", 5);
        wrong("aaaaaaaaaaaaaaaaaaaaaaa|", 24);
        wrong("aaaaaaaaaaaaaaaaaaaaaaa[", 24);
        wrong("(aaaaaaaaaaaaaaaaaaaaaaa", 24);
    }

    private static void noneForEachCause() {
        CHECK.of("NONE, if there are 16, no such mode or action, the mode would have more than 9 places");
        TokenBench x = Bench.with("abcdefab");
        for (int mode : NO_MODES) {
            CHECK.same("mode " + mode, Bench.rule(x, "a", mode), -1);
        }
        for (int action : NO_ACTIONS) {
            CHECK.same("action " + action, Bench.rule(x, "a", 0, action), -1);
        }
        CHECK.same("two places more", Bench.rule(x, "ab", 0), -1);
        CHECK.same("all at once", Bench.rule(x, "ab", 3, 5), -1);
        CHECK.same("nothing has changed", x.states(0), 9);
        CHECK.no("no rule 1", x.never(1));
        CHECK.same("one place more", Bench.rule(x, "a", 0), 1);
        for (int i = 2; i < 16; i++) {
            CHECK.same("rule " + i, Bench.rule(x, "a", 1 + i % 2), i);
        }
        CHECK.same("a 17th", Bench.rule(x, "b", 1), -1);
        CHECK.same("states of mode 1", x.states(1), 2);
    }

    private static void streamUnderWay() {
        CHECK.of("NONE, .. or a stream is under way (it has begun and not ended)");
        TokenBench x = new TokenBench();
        x.begin(3);
        CHECK.same("behind a refused begin", Bench.rule(x, "a", 0), 0);
        x.end();
        x.begin(0);
        CHECK.same("in a stream, for another mode", Bench.rule(x, "b", 1), -1);
        CHECK.same("in a stream, for its mode", Bench.rule(x, "b", 0), -1);
        CHECK.same("no state more", x.states(0), 2);
        Bench.feed(x, "aa");
        x.begin(3);
        CHECK.same("it is under way still", Bench.rule(x, "b", 1), -1);
        CHECK.same("nothing of the stream has changed", x.ready(), 2);
        x.end();
        CHECK.same("ended, its tokens waiting", Bench.rule(x, "b", 0), 1);
        x.end();
        CHECK.same("ended twice", Bench.rule(x, "c", 0), 2);
        x.begin(1);
        CHECK.same("another stream", Bench.rule(x, "d", 0), -1);
        x.begin(2);
        CHECK.same("a third in its place", Bench.rule(x, "d", 0), -1);
    }

    private static void wrongTextIsToldFirst() {
        CHECK.of("(A wrong text is told first.)");
        TokenBench x = new TokenBench();
        CHECK.same("mode 3", Bench.rule(x, "a)", 3), -3);
        CHECK.same("action 5", Bench.rule(x, "a)", 0, 5), -3);
        CHECK.same("no text, no mode, no action", x.rule(-1, -1), -2);
        CHECK.same("ten places", Bench.rule(x, "abcdefabcd)", 0), -12);
        CHECK.same("a missing one behind ten places", Bench.rule(x, "abcdefabcd|", 0), -13);
        x.begin(0);
        CHECK.same("in a stream", Bench.rule(x, "(", 0), -3);
        x.end();
        for (int i = 0; i < 16; i++) {
            Bench.rule(x, "a", i % 3);
        }
        CHECK.same("a 17th", Bench.rule(x, "a|b|", 0), -6);
    }
}
