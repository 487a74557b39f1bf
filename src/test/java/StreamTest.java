/** Promises 11 (begin), 12 (feed), 13 (end), 14 (ready), 15 (token), 16 (take) and 17 (stream). */
public final class StreamTest {
    private static final Check CHECK = new Check();

    public static void main(String[] args) {
        begin();
        feedRefuses();
        lettersOfAWord();
        toldAsSoonAsSure();
        lookedAtAgain();
        noRuleMatches();
        fortyEightPending();
        fortyEightAreCutToTheLongest();
        refusedWhileMuchWaits();
        moreThanFullWait();
        endCutsAll();
        endedStreamAnswers();
        tokenAndTake();
        enterAndLeave();
        fiveKept();
        enterItself();
        leaveWithNoneKept();
        manyTokensInTheEnd();
        CHECK.close();
    }

    private static void tokens(TokenBench x, String due) {
        String got = Bench.tokens(x);
        CHECK.yes("tokens " + got + ", due are " + due, got.equals(due));
    }

    private static void state(TokenBench x, int pending, int mode, int kept, int came) {
        CHECK.same("pending", x.stream(0), pending);
        CHECK.same("mode", x.stream(1), mode);
        CHECK.same("kept", x.stream(2), kept);
        CHECK.same("came", x.stream(3), came);
        for (int what : new int[] {-1, 4, Integer.MIN_VALUE, Integer.MAX_VALUE}) {
            CHECK.same("stream " + what, x.stream(what), -1);
        }
    }

    private static void begin() {
        TokenBench x = Bench.with("a", "bc");
        for (int mode : new int[] {-1, 3, Integer.MIN_VALUE, Integer.MAX_VALUE}) {
            CHECK.no("begin " + mode, x.begin(mode));
        }
        CHECK.same("no stream", x.stream(0), -1);
        CHECK.yes("begin 2", x.begin(2));
        state(x, 0, 2, 0, 0);
        CHECK.yes("begin 0", x.begin(0));
        Bench.feed(x, "aab");
        CHECK.no("begin 3", x.begin(3));
        CHECK.same("a refused begin leaves the tokens", x.ready(), 2);
        state(x, 1, 0, 0, 3);
        CHECK.yes("begin 0 again", x.begin(0));
        CHECK.same("the tokens are gone", x.ready(), 0);
        state(x, 0, 0, 0, 0);
        Bench.feed(x, "c");
        tokens(x, "-1@0+1/0");
    }

    private static void feedRefuses() {
        TokenBench x = Bench.with("ab");
        CHECK.same("without a stream", x.feed(0, 1), -1);
        x.begin(0);
        for (int n : new int[] {0, -1, 11, Integer.MIN_VALUE, Integer.MAX_VALUE}) {
            CHECK.same("feed of " + n, x.feed(0, n), -1);
        }
        state(x, 0, 0, 0, 0);
        CHECK.same("feed of 1", x.feed(0, 1), 1);
        x.end();
        CHECK.same("behind the end", x.feed(0, 1), -1);
        CHECK.same("came", x.stream(3), 1);
    }

    private static void lettersOfAWord() {
        TokenBench x = Bench.with("a", "b", "c", "d", "e", "f");
        int[] threes = {4, 5, 6, 7, 0, 1, 2, 3, 7, 5};
        int[] due = {4, 5, 0, 1, 0, 1, 2, 3, 1, 5};
        int word = 0b11 << 30;
        for (int i = 0; i < 10; i++) {
            word |= threes[i] << 3 * i;
        }
        x.begin(0);
        CHECK.same("ten letters", x.feed(word, 10), 10);
        for (int i = 0; i < 10; i++) {
            CHECK.same("letter " + i, x.token(0), due[i]);
            x.take();
        }
        CHECK.same("two letters of many bits", x.feed(-1, 2), 2);
        tokens(x, "1@10+1/0 1@11+1/0");
    }

    private static void toldAsSoonAsSure() {
        TokenBench x = Bench.with("a", "aab", "b+");
        x.begin(0);
        Bench.feed(x, "aa");
        CHECK.same("aab may come", x.ready(), 0);
        Bench.feed(x, "a");
        tokens(x, "0@0+1/0");
        state(x, 2, 0, 0, 3);
        Bench.feed(x, "b");
        tokens(x, "1@1+3/0");
        state(x, 0, 0, 0, 4);
        Bench.feed(x, "bbb");
        CHECK.same("more b may come", x.ready(), 0);
        Bench.feed(x, "c");
        tokens(x, "2@4+3/0 -1@7+1/0");
    }

    private static void lookedAtAgain() {
        TokenBench x = Bench.with("a", "abcd", "bc", "cc");
        x.begin(0);
        Bench.feed(x, "abcc");
        tokens(x, "0@0+1/0 2@1+2/0");
        state(x, 1, 0, 0, 4);
        Bench.feed(x, "c");
        tokens(x, "3@3+2/0");
    }

    private static void noRuleMatches() {
        TokenBench x = Bench.with("ab");
        x.begin(0);
        Bench.feed(x, "faab");
        tokens(x, "-1@0+1/0 -1@1+1/0 0@2+2/0");
        x.begin(1);
        Bench.feed(x, "abc");
        tokens(x, "-1@0+1/1 -1@1+1/1 -1@2+1/1");
        state(x, 0, 1, 0, 3);
    }

    private static void fortyEightPending() {
        TokenBench x = Bench.with("ab*c", "b+");
        x.begin(0);
        CHECK.same("47", Bench.feed(x, "a" + "b".repeat(46)), 47);
        CHECK.same("none told", x.ready(), 0);
        state(x, 47, 0, 0, 47);
        Bench.feed(x, "b");
        tokens(x, "-1@0+1/0");
        state(x, 47, 0, 0, 48);
        Bench.feed(x, "b");
        tokens(x, "1@1+48/0");
        state(x, 0, 0, 0, 49);
    }

    private static void fortyEightAreCutToTheLongest() {
        TokenBench x = Bench.with("a(bb)*", "ab+c", "b");
        x.begin(0);
        Bench.feed(x, "a" + "b".repeat(47));
        tokens(x, "0@0+47/0 2@47+1/0");
        TokenBench y = Bench.with("a+");
        y.begin(0);
        Bench.feed(y, "a".repeat(100));
        tokens(y, "0@0+48/0 0@48+48/0");
        state(y, 4, 0, 0, 100);
    }

    private static void refusedWhileMuchWaits() {
        TokenBench x = Bench.with("a");
        x.begin(0);
        CHECK.same("ten", x.feed(0, 10), 10);
        CHECK.same("twenty", x.feed(0, 10), 10);
        CHECK.same("four more", x.feed(0, 10), 4);
        CHECK.same("ready", x.ready(), 24);
        CHECK.same("none more", x.feed(0, 10), 0);
        CHECK.same("another n", x.feed(0, 11), -1);
        state(x, 0, 0, 0, 24);
        x.take();
        CHECK.same("one more", x.feed(0, 10), 1);
        CHECK.same("ready again", x.ready(), 24);
        CHECK.same("the oldest", x.token(1), 1);
    }

    private static void moreThanFullWait() {
        TokenBench x = Bench.with("ab*c");
        x.begin(0);
        Bench.feed(x, "d".repeat(23));
        CHECK.same("23 wait", x.ready(), 23);
        CHECK.same("48 more", Bench.feed(x, "a" + "b".repeat(48)), 48);
        CHECK.same("71 wait", x.ready(), 71);
        state(x, 0, 0, 0, 71);
        for (int i = 0; i < 71; i++) {
            CHECK.same("begins", x.token(1), i);
            CHECK.same("rule", x.token(0), -1);
            CHECK.same("refused while 24 wait", 71 - i >= 24 ? x.feed(3, 1) : 0, 0);
            x.take();
        }
    }

    private static void endCutsAll() {
        TokenBench x = Bench.with("a", "abcd", "b");
        CHECK.no("end without a stream", x.end());
        x.begin(0);
        Bench.feed(x, "abc");
        CHECK.same("none told", x.ready(), 0);
        CHECK.yes("end", x.end());
        CHECK.no("end again", x.end());
        tokens(x, "0@0+1/0 2@1+1/0 -1@2+1/0");
        x.begin(0);
        CHECK.yes("end of nothing", x.end());
        CHECK.same("no token of nothing", x.ready(), 0);
        x.begin(0);
        Bench.feed(x, "ab");
        x.begin(0);
        x.end();
        CHECK.same("pending letters go with their stream", x.ready(), 0);
    }

    private static void endedStreamAnswers() {
        TokenBench x = Bench.with("ab", "a");
        Bench.rule(x, "c", 0, 3);
        x.begin(0);
        Bench.feed(x, "caa");
        Bench.feed(x, "a");
        x.end();
        state(x, 0, 2, 1, 4);
        CHECK.same("its tokens wait", x.ready(), 4);
        tokens(x, "2@0+1/0 -1@1+1/2 -1@2+1/2 -1@3+1/2");
        CHECK.same("a rule more", Bench.rule(x, "d", 0), 3);
        x.begin(0);
        Bench.feed(x, "d");
        tokens(x, "3@0+1/0");
    }

    private static void tokenAndTake() {
        TokenBench x = Bench.with("a", "bc");
        CHECK.same("no token", Bench.token(x, 0), Bench.NO_SUCH_ELEMENT);
        CHECK.same("no token, another what", Bench.token(x, 4), Bench.NO_SUCH_ELEMENT);
        CHECK.same("nothing to take", Bench.take(x), Bench.NO_SUCH_ELEMENT);
        x.begin(0);
        CHECK.same("no token yet", Bench.token(x, 3), Bench.NO_SUCH_ELEMENT);
        CHECK.same("nothing to take yet", Bench.take(x), Bench.NO_SUCH_ELEMENT);
        Bench.feed(x, "abc");
        CHECK.same("two wait", x.ready(), 2);
        for (int what : new int[] {-1, 4, Integer.MIN_VALUE, Integer.MAX_VALUE}) {
            CHECK.same("token " + what, Bench.token(x, what), Bench.OUT_OF_BOUNDS);
        }
        CHECK.same("token changes nothing", x.ready(), 2);
        CHECK.same("rule", x.token(0), 0);
        CHECK.same("take", Bench.take(x), 0);
        CHECK.same("rule of the next", x.token(0), 1);
        CHECK.same("where it begins", x.token(1), 1);
        CHECK.same("its length", x.token(2), 2);
        CHECK.same("its mode", x.token(3), 0);
        CHECK.same("take the next", Bench.take(x), 0);
        CHECK.same("none left", Bench.take(x), Bench.NO_SUCH_ELEMENT);
        CHECK.same("no token left", Bench.token(x, 0), Bench.NO_SUCH_ELEMENT);
    }

    private static void enterAndLeave() {
        TokenBench x = new TokenBench();
        Bench.rule(x, "a", 0, 2);
        Bench.rule(x, "b", 1, 3);
        Bench.rule(x, "c", 2, 4);
        Bench.rule(x, "d+", 1, 4);
        Bench.rule(x, "[cd]", 0, 0);
        x.begin(0);
        Bench.feed(x, "ca");
        state(x, 0, 1, 1, 2);
        Bench.feed(x, "b");
        state(x, 0, 2, 2, 3);
        Bench.feed(x, "c");
        state(x, 0, 1, 1, 4);
        Bench.feed(x, "dda");
        state(x, 0, 1, 1, 7);
        tokens(x, "4@0+1/0 0@1+1/0 1@2+1/1 2@3+1/2 3@4+2/1 0@6+1/0");
        Bench.feed(x, "f");
        state(x, 0, 1, 1, 8);
        tokens(x, "-1@7+1/1");
    }

    private static void fiveKept() {
        TokenBench x = new TokenBench();
        Bench.rule(x, "a", 0, 2);
        Bench.rule(x, "a", 1, 3);
        Bench.rule(x, "a", 2, 1);
        for (int mode = 0; mode < 3; mode++) {
            Bench.rule(x, "b", mode, 4);
        }
        x.begin(0);
        Bench.feed(x, "aaaaa");
        state(x, 0, 2, 5, 5);
        Bench.feed(x, "a");
        state(x, 0, 2, 5, 6);
        tokens(x, "0@0+1/0 1@1+1/1 2@2+1/2 0@3+1/0 1@4+1/1 2@5+1/2");
        int[] back = {1, 0, 2, 1, 0, 0, 0};
        for (int i = 0; i < back.length; i++) {
            Bench.feed(x, "b");
            state(x, 0, back[i], Math.max(0, 4 - i), 7 + i);
        }
        x.begin(1);
        state(x, 0, 1, 0, 0);
    }

    private static void enterItself() {
        TokenBench x = new TokenBench();
        Bench.rule(x, "a", 0, 1);
        Bench.rule(x, "b", 0, 4);
        x.begin(0);
        Bench.feed(x, "aa");
        state(x, 0, 0, 2, 2);
        Bench.feed(x, "b");
        state(x, 0, 0, 1, 3);
    }

    private static void leaveWithNoneKept() {
        TokenBench x = new TokenBench();
        Bench.rule(x, "a", 1, 4);
        x.begin(1);
        Bench.feed(x, "aa");
        state(x, 0, 1, 0, 2);
        tokens(x, "0@0+1/1 0@1+1/1");
    }

    private static void manyTokensInTheEnd() {
        TokenBench x = Bench.with("ab*c", "d");
        Bench.rule(x, "b", 0, 2);
        x.begin(0);
        Bench.feed(x, "d".repeat(23) + "a" + "b".repeat(46));
        CHECK.same("23 wait", x.ready(), 23);
        state(x, 47, 0, 0, 70);
        x.end();
        CHECK.same("all wait", x.ready(), 70);
        state(x, 0, 1, 1, 70);
        for (int i = 0; i < 70; i++) {
            CHECK.same("begins", x.token(1), i);
            CHECK.same("length", x.token(2), 1);
            CHECK.same("rule", x.token(0), i < 23 ? 1 : i == 24 ? 2 : -1);
            CHECK.same("mode", x.token(3), i < 25 ? 0 : 1);
            x.take();
        }
        CHECK.same("none left", x.ready(), 0);
    }
}
