/**
 * The edges of streams and tokens: a method for each sentence of "Terms" and of promises 11 to 17
 * (begin, feed, end, ready, token, take, stream) that names one.
 */
public final class StreamEdgesTest {
    private static final int LEAST = Integer.MIN_VALUE;
    private static final int MOST = Integer.MAX_VALUE;
    private static final int[] NO_MODES = {-1, 3, -2, 4, LEAST, MOST};
    /** The most tokens that can wait: 23, and a 48th pending letter that makes 48 more of them. */
    private static final int FULLEST = 71;

    private static final Check CHECK = new Check();

    public static void main(String[] args) {
        noneKeptAtFirst();
        pendingBehindTheLastToken();
        cutWhenNotLive();
        cutWhenNoLetterBehindIsLive();
        cutAt48();
        fortyEightPendingNotCome();
        cutAtTheEnd();
        endOfNonePending();
        longestBeginning();
        firstLetterOfNoRule();
        noActionOfNoRule();
        enterKeepsThePresentMode();
        enterWithFiveKept();
        leaveForTheOneKeptLast();
        leaveWithNoneKept();
        lookedAtAgain();
        lookedAtAgainInTheNewMode();
        refusedWhile24Wait();
        refusedWhileMoreWait();

        beginNoSuchMode();
        beginInTheMidst();
        feedOneToTen();
        feedAnotherN();
        sixAndSeven();
        fewerTaken();
        feedWithoutAStream();
        endTwice();
        endWithAnyNumberWaiting();
        ready();
        tokenOfNoneWaiting();
        tokenAnotherWhat();
        takeOfNoneWaiting();
        oldestFirstForLong();
        streamWithoutOne();
        streamAnotherWhat();
        CHECK.close();
    }

    private static void state(String when, TokenBench x, int pending, int mode, int kept, int came) {
        CHECK.same("pending " + when, x.stream(0), pending);
        CHECK.same("mode " + when, x.stream(1), mode);
        CHECK.same("kept " + when, x.stream(2), kept);
        CHECK.same("came " + when, x.stream(3), came);
    }

    private static void tokens(String when, TokenBench x, String due) {
        CHECK.text("tokens " + when, Bench.tokens(x), due);
    }

    /** In each mode: a enters the next one, b leaves. */
    private static TokenBench ring() {
        TokenBench x = new TokenBench();
        Bench.rule(x, "a", 0, 2);
        Bench.rule(x, "a", 1, 3);
        Bench.rule(x, "a", 2, 1);
        for (int mode = 0; mode < 3; mode++) {
            Bench.rule(x, "b", mode, 4);
        }
        return x;
    }

    private static void noneKeptAtFirst() {
        CHECK.of("A STREAM is in a mode, with modes to which it comes back, none at first");
        TokenBench x = ring();
        for (int mode = 0; mode < 3; mode++) {
            x.begin(mode);
            state("at first", x, 0, mode, 0, 0);
            Bench.feed(x, "aa");
            state("behind two", x, 0, (mode + 2) % 3, 2, 2);
            x.begin(mode);
            state("of another", x, 0, mode, 0, 0);
            Bench.feed(x, "b");
            state("behind one that leaves", x, 0, mode, 0, 1);
        }
    }

    private static void pendingBehindTheLastToken() {
        CHECK.of("Letters that come are PENDING, behind those of the last token");
        TokenBench x = Bench.with("ab", "abcd", "c");
        x.begin(0);
        state("at first", x, 0, 0, 0, 0);
        Bench.feed(x, "a");
        state("a", x, 1, 0, 0, 1);
        Bench.feed(x, "bc");
        state("abc", x, 3, 0, 0, 3);
        Bench.feed(x, "a");
        state("abca", x, 1, 0, 0, 4);
        tokens("of abca", x, "0@0+2/0 2@2+1/0");
        state("taking changes nothing", x, 1, 0, 0, 4);
    }

    private static void cutWhenNotLive() {
        CHECK.of("As soon as the pending ones are not live");
        TokenBench x = Bench.with("a+", "b");
        x.begin(0);
        Bench.feed(x, "aaa");
        CHECK.same("waiting behind aaa", x.ready(), 0);
        Bench.feed(x, "c");
        tokens("behind c", x, "0@0+3/0 -1@3+1/0");
        TokenBench y = new TokenBench();
        y.begin(1);
        Bench.feed(y, "a");
        tokens("of a mode without rules", y, "-1@0+1/1");
    }

    private static void cutWhenNoLetterBehindIsLive() {
        CHECK.of("or are live but no letter behind them would be live");
        TokenBench x = Bench.with("ab", "c");
        x.begin(0);
        Bench.feed(x, "a");
        CHECK.same("a may go on", x.ready(), 0);
        Bench.feed(x, "b");
        CHECK.same("ab may not", x.ready(), 1);
        Bench.feed(x, "c");
        CHECK.same("c may not", x.ready(), 2);
        state("then", x, 0, 0, 0, 3);
        TokenBench y = Bench.with("ab?");
        y.begin(0);
        Bench.feed(y, "a");
        CHECK.same("a has a winner and may go on", y.ready(), 0);
        TokenBench z = Bench.with("a|b.*f");
        z.begin(0);
        Bench.feed(z, "a");
        CHECK.same("a by one letter of the rules may go on, by none of its own", z.ready(), 1);
    }

    private static void cutAt48() {
        CHECK.of("or 48 are pending");
        TokenBench x = Bench.with("a+");
        x.begin(0);
        Bench.feed(x, "a".repeat(47));
        CHECK.same("waiting at 47", x.ready(), 0);
        state("at 47", x, 47, 0, 0, 47);
        Bench.feed(x, "a");
        tokens("at 48", x, "0@0+48/0");
        state("at 48", x, 0, 0, 0, 48);
        Bench.feed(x, "a".repeat(47));
        CHECK.same("waiting at 95", x.ready(), 0);
        Bench.feed(x, "a");
        tokens("at 96", x, "0@48+48/0");
        TokenBench y = Bench.with("a+b", "a");
        y.begin(0);
        Bench.feed(y, "a".repeat(47));
        state("that may end in b, at 47", y, 47, 0, 0, 47);
        Bench.feed(y, "a");
        tokens("that may end in b, at 48", y, "1@0+1/0");
        state("that may end in b, at 48", y, 47, 0, 0, 48);
        Bench.feed(y, "b");
        tokens("that end in b", y, "0@1+48/0");
    }

    private static void fortyEightPendingNotCome() {
        CHECK.of("48 are pending");
        TokenBench x = Bench.with("a+", "b");
        x.begin(0);
        Bench.feed(x, "b" + "a".repeat(47));
        CHECK.same("48 came, 47 are pending", x.ready(), 1);
        state("of 48", x, 47, 0, 0, 48);
        Bench.feed(x, "a");
        tokens("of 49", x, "1@0+1/0 0@1+48/0");
    }

    private static void cutAtTheEnd() {
        CHECK.of("or the stream is ended, and all that are pending (any) have been looked at");
        TokenBench x = Bench.with("a+", "a+b+c", "b");
        x.begin(0);
        Bench.feed(x, "aabb");
        CHECK.same("waiting", x.ready(), 0);
        CHECK.yes("end", x.end());
        tokens("in the end", x, "0@0+2/0 2@2+1/0 2@3+1/0");
        state("in the end", x, 0, 0, 0, 4);
        x.begin(0);
        Bench.feed(x, "a".repeat(47));
        x.end();
        tokens("of 47", x, "0@0+47/0");
        x.begin(0);
        Bench.feed(x, "a");
        CHECK.same("a waits for more", x.ready(), 0);
        x.end();
        tokens("of one", x, "0@0+1/0");
        state("of one", x, 0, 0, 0, 1);
    }

    private static void endOfNonePending() {
        CHECK.of("all that are pending (any)");
        TokenBench x = Bench.with("a*");
        x.begin(0);
        CHECK.yes("end of nothing", x.end());
        CHECK.same("no token", x.ready(), 0);
        state("of nothing", x, 0, 0, 0, 0);
        TokenBench y = Bench.with("a");
        y.begin(0);
        Bench.feed(y, "a");
        CHECK.yes("end behind a token", y.end());
        tokens("of a", y, "0@0+1/0");
    }

    private static void longestBeginning() {
        CHECK.of("the longest beginning of the pending letters that has a winner, if there is one");
        TokenBench x = Bench.with("a", "ab", "abcde");
        x.begin(0);
        Bench.feed(x, "abcdf");
        tokens("of abcdf", x, "1@0+2/0 -1@2+1/0 -1@3+1/0 -1@4+1/0");
        x.begin(0);
        Bench.feed(x, "abcde");
        tokens("of abcde", x, "2@0+5/0");
        TokenBench y = Bench.with("a(bb)*", "ab+c");
        y.begin(0);
        Bench.feed(y, "a" + "b".repeat(47));
        tokens("of 48, the longest being 47", y, "0@0+47/0 -1@47+1/0");
        TokenBench z = Bench.with("ab|c", "a+b");
        z.begin(0);
        Bench.feed(z, "abcaab");
        tokens("the least rule of the longest", z, "0@0+2/0 0@2+1/0 1@3+3/0");
    }

    private static void firstLetterOfNoRule() {
        CHECK.of("else the first letter, of rule NONE");
        TokenBench x = Bench.with("abc");
        x.begin(0);
        Bench.feed(x, "abf");
        tokens("of abf", x, "-1@0+1/0 -1@1+1/0 -1@2+1/0");
        Bench.feed(x, "aabc");
        tokens("of aabc", x, "-1@3+1/0 0@4+3/0");
    }

    private static void noActionOfNoRule() {
        CHECK.of("with the rule's action");
        TokenBench x = new TokenBench();
        for (int i = 0; i < 3; i++) {
            Bench.rule(x, "a", i, 2);
        }
        x.begin(0);
        Bench.feed(x, "f");
        state("behind rule NONE", x, 0, 0, 0, 1);
        Bench.feed(x, "a");
        state("behind rule 0", x, 0, 1, 1, 2);
    }

    private static void enterKeepsThePresentMode() {
        CHECK.of("it enters the mode (the present one is kept to come back to");
        TokenBench x = ring();
        x.begin(1);
        Bench.feed(x, "a");
        state("behind a", x, 0, 2, 1, 1);
        Bench.feed(x, "b");
        state("back again", x, 0, 1, 0, 2);
        TokenBench y = new TokenBench();
        Bench.rule(y, "a", 2, 3);
        Bench.rule(y, "b", 2, 4);
        y.begin(2);
        Bench.feed(y, "aaa");
        state("entering itself", y, 0, 2, 3, 3);
        Bench.feed(y, "b");
        state("leaving itself", y, 0, 2, 2, 4);
    }

    private static void enterWithFiveKept() {
        CHECK.of("nothing of this if five are kept");
        TokenBench x = ring();
        x.begin(0);
        Bench.feed(x, "aaaa");
        state("four kept", x, 0, 1, 4, 4);
        Bench.feed(x, "a");
        state("five kept", x, 0, 2, 5, 5);
        Bench.feed(x, "a");
        state("a sixth", x, 0, 2, 5, 6);
        Bench.feed(x, "aa");
        state("more", x, 0, 2, 5, 8);
        tokens("cut all the same", x,
                "0@0+1/0 1@1+1/1 2@2+1/2 0@3+1/0 1@4+1/1 2@5+1/2 2@6+1/2 2@7+1/2");
        int[] back = {1, 0, 2, 1, 0, 0};
        for (int i = 0; i < back.length; i++) {
            Bench.feed(x, "b");
            state("back by " + (i + 1), x, 0, back[i], Math.max(0, 4 - i), 9 + i);
        }
    }

    private static void leaveForTheOneKeptLast() {
        CHECK.of("or leaves it for the one kept last");
        TokenBench x = ring();
        x.begin(2);
        Bench.feed(x, "aab");
        state("behind aab", x, 0, 0, 1, 3);
        Bench.feed(x, "a");
        state("behind aaba", x, 0, 1, 2, 4);
        Bench.feed(x, "bb");
        state("behind aababb", x, 0, 2, 0, 6);
    }

    private static void leaveWithNoneKept() {
        CHECK.of("(nothing if there is none)");
        TokenBench x = ring();
        for (int mode = 0; mode < 3; mode++) {
            x.begin(mode);
            Bench.feed(x, "bb");
            state("with none kept", x, 0, mode, 0, 2);
            CHECK.same("its tokens", x.ready(), 2);
            Bench.feed(x, "a");
            state("entering still keeps", x, 0, (mode + 1) % 3, 1, 3);
        }
    }

    private static void lookedAtAgain() {
        CHECK.of("The pending letters are looked at again (beginning with the first one of them, then two, ..)");
        TokenBench x = Bench.with("a", "abcde", "bc", "d");
        x.begin(0);
        Bench.feed(x, "abcd");
        CHECK.same("none told", x.ready(), 0);
        Bench.feed(x, "a");
        tokens("all told at once", x, "0@0+1/0 2@1+2/0 3@3+1/0");
        state("a is pending", x, 1, 0, 0, 5);
        TokenBench y = Bench.with("a", "abcd", "bc+e", "c");
        y.begin(0);
        Bench.feed(y, "abcc");
        tokens("one told", y, "0@0+1/0");
        state("bcc is pending", y, 3, 0, 0, 4);
        Bench.feed(y, "f");
        tokens("the others", y, "-1@1+1/0 3@2+1/0 3@3+1/0 -1@4+1/0");
    }

    private static void lookedAtAgainInTheNewMode() {
        CHECK.of("The pending letters are looked at again .. and so on");
        TokenBench x = new TokenBench();
        Bench.rule(x, "a", 0, 2);
        Bench.rule(x, "abbc", 0, 0);
        Bench.rule(x, "b", 0, 0);
        Bench.rule(x, "bb", 1, 4);
        Bench.rule(x, "bbc", 1, 0);
        x.begin(0);
        Bench.feed(x, "abbb");
        tokens("in the mode that a enters, then back", x, "0@0+1/0 3@1+2/1 2@3+1/0");
        state("back in mode 0", x, 0, 0, 0, 4);
        Bench.feed(x, "abb");
        x.end();
        tokens("in the end", x, "0@4+1/0 3@5+2/1");
        state("in the end", x, 0, 0, 0, 7);
    }

    private static void refusedWhile24Wait() {
        CHECK.of("letters are refused while 24 or more wait");
        TokenBench x = Bench.with("a", "bc");
        x.begin(0);
        CHECK.same("23 letters", Bench.feed(x, "a".repeat(23)), 23);
        CHECK.same("23 wait", x.ready(), 23);
        CHECK.same("pending ones do not wait", x.feed(1, 1), 1);
        CHECK.same("23 wait still", x.ready(), 23);
        CHECK.same("the 24th token", x.feed(2, 1), 1);
        CHECK.same("24 wait", x.ready(), 24);
        CHECK.same("one letter", x.feed(0, 1), 0);
        CHECK.same("ten letters", x.feed(0, 10), 0);
        state("nothing came", x, 0, 0, 0, 25);
        x.take();
        CHECK.same("one letter behind a take", x.feed(0, 1), 1);
        CHECK.same("one letter more", x.feed(0, 1), 0);
        CHECK.same("24 wait again", x.ready(), 24);
    }

    private static TokenBench fullest() {
        TokenBench x = Bench.with("ab*c");
        x.begin(0);
        Bench.feed(x, "d".repeat(23) + "a" + "b".repeat(47));
        return x;
    }

    private static void refusedWhileMoreWait() {
        CHECK.of("letters are refused while 24 or more wait");
        TokenBench x = fullest();
        for (int waiting = FULLEST; waiting >= 24; waiting--) {
            CHECK.same("ready", x.ready(), waiting);
            CHECK.same("feed while " + waiting + " wait", x.feed(3, 1), 0);
            CHECK.same("the oldest begins", x.token(1), FULLEST - waiting);
            x.take();
        }
        CHECK.same("feed while 23 wait", x.feed(3, 1), 1);
        state("then", x, 0, 0, 0, FULLEST + 1);
    }

    private static void beginNoSuchMode() {
        CHECK.of("begin: false if there is no such mode");
        TokenBench x = ring();
        for (int mode : NO_MODES) {
            CHECK.no("begin " + mode, x.begin(mode));
            CHECK.same("no stream", x.stream(1), -1);
        }
        x.begin(0);
        Bench.feed(x, "aab");
        for (int mode : NO_MODES) {
            CHECK.no("begin " + mode, x.begin(mode));
            state("of the stream under way", x, 0, 1, 1, 3);
            CHECK.same("its tokens", x.ready(), 3);
        }
        CHECK.same("it goes on", Bench.feed(x, "b"), 1);
    }

    private static void beginInTheMidst() {
        CHECK.of("one that was under way, with its tokens, is gone");
        TokenBench x = Bench.with("a", "bc", "bd");
        Bench.rule(x, "f", 0, 3);
        x.begin(0);
        Bench.feed(x, "aaf");
        Bench.feed(x, "b");
        CHECK.yes("begin in the midst", x.begin(0));
        state("of the new one", x, 0, 0, 0, 0);
        CHECK.same("no token", x.ready(), 0);
        CHECK.same("token", Bench.token(x, 0), Bench.NO_SUCH_ELEMENT);
        Bench.feed(x, "ab");
        x.begin(0);
        Bench.feed(x, "c");
        tokens("the pending b is gone too", x, "-1@0+1/0");
        TokenBench y = fullest();
        CHECK.same("a full one takes none", y.feed(0, 1), 0);
        CHECK.yes("begin behind a full one", y.begin(0));
        CHECK.same("the new one takes ten", y.feed(0, 10), 10);
    }

    private static void feedOneToTen() {
        CHECK.of("n letters (1 .. 10) come, one after the other: of word, the lowest three bits being the first one");
        for (int n = 1; n <= 10; n++) {
            TokenBench x = Bench.with("a", "b", "c", "d", "e", "f");
            x.begin(0);
            CHECK.same("feed of " + n, x.feed(Bench.word("fedcbaabcd"), n), n);
            CHECK.same("came", x.stream(3), n);
            for (int i = 0; i < n; i++) {
                CHECK.same("letter " + i, x.token(0), "fedcbaabcd".charAt(i) - 'a');
                x.take();
            }
        }
        TokenBench x = Bench.with("b+", "c");
        x.begin(0);
        CHECK.same("all bits, ten letters", x.feed(-1, 10), 10);
        state("ten times b", x, 10, 0, 0, 10);
        CHECK.same("the highest bit alone", x.feed(LEAST | 2, 1), 1);
        tokens("then", x, "0@0+10/0 1@10+1/0");
    }

    private static void feedAnotherN() {
        CHECK.of("feed: NONE .. for another n");
        TokenBench x = Bench.with("a");
        x.begin(0);
        for (int n : new int[] {0, 11, -1, 12, 48, LEAST, MOST}) {
            CHECK.same("feed of " + n, x.feed(0, n), -1);
        }
        state("nothing came", x, 0, 0, 0, 0);
        Bench.feed(x, "a".repeat(24));
        CHECK.same("0 while 24 wait", x.feed(0, 0), -1);
        CHECK.same("11 while 24 wait", x.feed(0, 11), -1);
    }

    private static void sixAndSeven() {
        CHECK.of("6 and 7 counting as 0 and 1");
        TokenBench x = Bench.with("a", "b", "e", "f");
        x.begin(0);
        CHECK.same("4 5 6 7", x.feed(4 | 5 << 3 | 6 << 6 | 7 << 9, 4), 4);
        tokens("of 4 5 6 7", x, "2@0+1/0 3@1+1/0 0@2+1/0 1@3+1/0");
    }

    private static void fewerTaken() {
        CHECK.of("how many were taken (fewer, if so many tokens wait then)");
        TokenBench x = Bench.with("a");
        x.begin(0);
        Bench.feed(x, "a".repeat(15));
        CHECK.same("nine of ten", x.feed(0, 10), 9);
        state("24 came", x, 0, 0, 0, 24);
        for (int i = 0; i < 10; i++) {
            x.take();
        }
        CHECK.same("ten of ten, just so", x.feed(0, 10), 10);
        CHECK.same("24 wait", x.ready(), 24);
        TokenBench y = Bench.with("ab*c", "d");
        y.begin(0);
        Bench.feed(y, "d".repeat(23) + "a" + "b".repeat(44));
        CHECK.same("a letter that makes many tokens is taken, none behind it", y.feed(Bench.word("bbfdd"), 5), 3);
        CHECK.same("all wait", y.ready(), FULLEST);
    }

    private static void feedWithoutAStream() {
        CHECK.of("feed: NONE if there is no stream, it is ended");
        TokenBench x = Bench.with("a");
        CHECK.same("no stream", x.feed(0, 1), -1);
        x.begin(3);
        CHECK.same("no stream behind a refused begin", x.feed(0, 1), -1);
        x.begin(0);
        CHECK.same("a stream", x.feed(0, 1), 1);
        x.end();
        CHECK.same("an ended one", x.feed(0, 1), -1);
        CHECK.same("an ended one, another n", x.feed(0, 11), -1);
        state("of the ended one", x, 0, 0, 0, 1);
        x.begin(0);
        CHECK.same("a new one", x.feed(0, 1), 1);
    }

    private static void endTwice() {
        CHECK.of("end: false if there is none, or it has ended");
        TokenBench x = Bench.with("a");
        CHECK.no("end without a stream", x.end());
        x.begin(3);
        CHECK.no("end behind a refused begin", x.end());
        x.begin(0);
        CHECK.yes("end", x.end());
        CHECK.no("end again", x.end());
        x.begin(1);
        CHECK.yes("end of another", x.end());
        CHECK.no("end of another again", x.end());
        TokenBench y = ring();
        y.begin(0);
        Bench.feed(y, "aab");
        y.end();
        CHECK.no("end refused", y.end());
        CHECK.same("feed refused", y.feed(0, 1), -1);
        state("refused calls change nothing", y, 0, 1, 1, 3);
        tokens("of the ended one", y, "0@0+1/0 1@1+1/1 5@2+1/2");
    }

    private static void endWithAnyNumberWaiting() {
        CHECK.of("(It may have any number of tokens waiting then.)");
        TokenBench x = Bench.with("ab*c");
        x.begin(0);
        Bench.feed(x, "d".repeat(23) + "a" + "b".repeat(46));
        CHECK.same("23 wait", x.ready(), 23);
        CHECK.yes("end", x.end());
        CHECK.same("70 wait", x.ready(), 70);
        for (int i = 0; i < 70; i++) {
            CHECK.same("begins", x.token(1), i);
            CHECK.same("length", x.token(2), 1);
            x.take();
        }
        CHECK.same("none wait", x.ready(), 0);
        TokenBench y = fullest();
        CHECK.yes("end of the fullest", y.end());
        CHECK.same("71 wait", y.ready(), FULLEST);
        TokenBench z = Bench.with("a", "ab*c", "b");
        z.begin(0);
        Bench.feed(z, "d".repeat(23) + "a" + "b".repeat(47));
        CHECK.yes("end of one that is full", z.end());
        CHECK.same("71 wait there", z.ready(), FULLEST);
        state("none pending", z, 0, 0, 0, FULLEST);
    }

    private static void ready() {
        CHECK.of("ready: How many tokens wait");
        TokenBench x = Bench.with("a");
        CHECK.same("without a stream", x.ready(), 0);
        x.begin(0);
        CHECK.same("at first", x.ready(), 0);
        for (int i = 1; i <= 24; i++) {
            x.feed(0, 1);
            CHECK.same("behind " + i, x.ready(), i);
        }
        x.end();
        for (int i = 23; i >= 0; i--) {
            x.take();
            CHECK.same("left", x.ready(), i);
        }
        CHECK.same("nothing to take", Bench.take(x), Bench.NO_SUCH_ELEMENT);
        CHECK.same("still none", x.ready(), 0);
    }

    private static void tokenOfNoneWaiting() {
        CHECK.of("token: NoSuchElementException: none waits");
        TokenBench x = Bench.with("ab");
        for (int what = -1; what <= 4; what++) {
            CHECK.same("without a stream, " + what, Bench.token(x, what), Bench.NO_SUCH_ELEMENT);
        }
        x.begin(0);
        Bench.feed(x, "a");
        for (int what = -1; what <= 4; what++) {
            CHECK.same("one pending, " + what, Bench.token(x, what), Bench.NO_SUCH_ELEMENT);
        }
        Bench.feed(x, "b");
        CHECK.same("one waiting", Bench.token(x, 2), 2);
        x.take();
        for (int what = -1; what <= 4; what++) {
            CHECK.same("all taken, " + what, Bench.token(x, what), Bench.NO_SUCH_ELEMENT);
        }
    }

    private static void tokenAnotherWhat() {
        CHECK.of("token: what 0: its rule, 1: where it begins, 2: its length, 3: the mode; "
                + "IndexOutOfBoundsException: another what");
        TokenBench x = new TokenBench();
        Bench.rule(x, "a", 2);
        Bench.rule(x, "bcc", 2);
        x.begin(2);
        Bench.feed(x, "abccf");
        x.take();
        int[] due = {1, 1, 3, 2};
        for (int what = 0; what <= 3; what++) {
            CHECK.same("token " + what, Bench.token(x, what), due[what]);
        }
        for (int what : new int[] {-1, 4, 5, LEAST, MOST, 288, 284}) {
            CHECK.same("token " + what, Bench.token(x, what), Bench.OUT_OF_BOUNDS);
        }
        CHECK.same("it waits still", x.ready(), 2);
        x.take();
        CHECK.same("rule NONE", Bench.token(x, 0), -1);
    }

    private static void takeOfNoneWaiting() {
        CHECK.of("take: NoSuchElementException: none waits");
        TokenBench x = Bench.with("ab");
        CHECK.same("without a stream", Bench.take(x), Bench.NO_SUCH_ELEMENT);
        x.begin(0);
        Bench.feed(x, "a");
        CHECK.same("one pending", Bench.take(x), Bench.NO_SUCH_ELEMENT);
        CHECK.same("none waits", x.ready(), 0);
        Bench.feed(x, "b");
        CHECK.same("one waiting", Bench.take(x), 0);
        CHECK.same("none more", Bench.take(x), Bench.NO_SUCH_ELEMENT);
        state("then", x, 0, 0, 0, 2);
        Bench.feed(x, "ab");
        CHECK.same("the next", Bench.token(x, 1), 2);
    }

    /** More tokens than ever wait at once go through, with few and with the most of them waiting. */
    private static void oldestFirstForLong() {
        CHECK.of("Of the oldest token that waits .. where it begins, from 0 on");
        for (int waiting = 0; waiting < 24; waiting += 23) {
            TokenBench x = Bench.with("a", "bb");
            x.begin(0);
            Bench.feed(x, "a".repeat(waiting));
            int taken = 0;
            for (int i = waiting; i < 150; i++) {
                x.feed(0, 1);
                CHECK.same("begins", x.token(1), taken);
                x.take();
                taken++;
            }
            CHECK.same("waiting", x.ready(), waiting);
        }
        TokenBench x = Bench.with("ab*c");
        for (int taken = 0; taken < 80; taken += 13) {
            x.begin(0);
            for (int i = 0; i < taken; i++) {
                x.feed(3, 1);
                x.take();
            }
            Bench.feed(x, "d".repeat(23) + "a" + "b".repeat(47));
            for (int i = 0; i < FULLEST; i++) {
                CHECK.same("begins", x.token(1), taken + i);
                CHECK.same("length", x.token(2), 1);
                x.take();
            }
        }
    }

    private static void streamWithoutOne() {
        CHECK.of("stream: NONE without a stream");
        TokenBench x = Bench.with("a");
        for (int what = -1; what <= 4; what++) {
            CHECK.same("stream " + what, x.stream(what), -1);
        }
        x.begin(-1);
        CHECK.same("behind a refused begin", x.stream(3), -1);
        x.begin(2);
        state("of a stream", x, 0, 2, 0, 0);
    }

    private static void streamAnotherWhat() {
        CHECK.of("stream: NONE .. for another what");
        TokenBench x = Bench.with("aab");
        x.begin(0);
        Bench.feed(x, "aa");
        for (int what : new int[] {-1, 4, 5, LEAST, MOST}) {
            CHECK.same("stream " + what, x.stream(what), -1);
        }
        state("of aa", x, 2, 0, 0, 2);
        x.end();
        for (int what : new int[] {-1, 4, 5, LEAST, MOST}) {
            CHECK.same("stream " + what + " in the end", x.stream(what), -1);
        }
    }
}
