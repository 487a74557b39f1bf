import java.util.NoSuchElementException;

/** Short ways to use a TokenBench in tests. */
final class Bench {
    static final int NO_SUCH_ELEMENT = -101;
    static final int OUT_OF_BOUNDS = -102;

    private Bench() {
    }

    /** Types a text, up to eight characters a call. */
    static boolean type(TokenBench x, String text) {
        boolean typed = true;
        for (int from = 0; from < text.length(); from += 8) {
            String some = text.substring(from, Math.min(text.length(), from + 8));
            typed &= x.type(packed(some), some.length());
        }
        return typed;
    }

    static long packed(String some) {
        long word = 0;
        for (int i = 0; i < some.length(); i++) {
            word = word << 8 | some.charAt(i);
        }
        return word;
    }

    static int rule(TokenBench x, String text, int mode, int action) {
        type(x, text);
        return x.rule(mode, action);
    }

    static int rule(TokenBench x, String text, int mode) {
        return rule(x, text, mode, 0);
    }

    /** A new object with these rules in mode 0. */
    static TokenBench with(String... texts) {
        TokenBench x = new TokenBench();
        for (String text : texts) {
            if (rule(x, text, 0) < 0) {
                throw new IllegalArgumentException("refused: " + text);
            }
        }
        return x;
    }

    /** Feeds letters a .. f, up to ten a call; how many were taken. */
    static int feed(TokenBench x, String letters) {
        int taken = 0;
        for (int from = 0; from < letters.length(); from += 10) {
            String some = letters.substring(from, Math.min(letters.length(), from + 10));
            int now = x.feed(word(some), some.length());
            taken += Math.max(now, 0);
            if (now < some.length()) {
                break;
            }
        }
        return taken;
    }

    static int word(String letters) {
        int word = 0;
        for (int i = 0; i < letters.length(); i++) {
            word |= (letters.charAt(i) - 'a') << 3 * i;
        }
        return word;
    }

    /** The state of a word, or NONE. */
    static int stateOf(TokenBench x, int mode, String word) {
        int state = 0;
        for (int i = 0; i < word.length() && state != TokenBench.NONE; i++) {
            state = x.next(mode, state, word.charAt(i) - 'a');
        }
        return state;
    }

    static int winnerOf(TokenBench x, int mode, String word) {
        return x.winner(mode, stateOf(x, mode, word));
    }

    static int token(TokenBench x, int what) {
        try {
            return x.token(what);
        } catch (NoSuchElementException e) {
            return NO_SUCH_ELEMENT;
        } catch (IndexOutOfBoundsException e) {
            return OUT_OF_BOUNDS;
        }
    }

    static int take(TokenBench x) {
        try {
            x.take();
            return 0;
        } catch (NoSuchElementException e) {
            return NO_SUCH_ELEMENT;
        }
    }

    /** All tokens that wait, taken: rule@start+length/mode of each, with spaces between. */
    static String tokens(TokenBench x) {
        StringBuilder all = new StringBuilder();
        while (x.ready() > 0) {
            all.append(all.length() == 0 ? "" : " ");
            all.append(x.token(0)).append('@').append(x.token(1)).append('+').append(x.token(2));
            all.append('/').append(x.token(3));
            x.take();
        }
        return all.toString();
    }

    /** The word that differ and differing tell of, or null. */
    static String difference(TokenBench x, int one, int other) {
        int length = x.differ(one, other);
        if (length == TokenBench.NONE) {
            return null;
        }
        StringBuilder word = new StringBuilder();
        for (int i = 0; i < length; i++) {
            word.append((char) ('a' + x.differing(one, other, i)));
        }
        return word.toString();
    }
}
