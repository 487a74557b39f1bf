/** Long runs of thrown calls: every answer must be the model's. All promises. */
public final class RandomRunsTest {
    private static final int RUNS = 3000;
    private static final int CALLS = 500;

    private final Check check;
    private final int run;
    private final Dice dice;
    private final Texts texts;
    private final TokenBench x = new TokenBench();
    private final Model model = new Model();

    private RandomRunsTest(Check check, int run) {
        this.check = check;
        this.run = run;
        this.dice = new Dice(run);
        this.texts = new Texts(dice);
    }

    public static void main(String[] args) {
        Check check = new Check();
        for (int run = 1; run <= RUNS && !check.hasFailed(); run++) {
            new RandomRunsTest(check, run).go();
        }
        check.close();
    }

    private void go() {
        boolean rulesFirst = !dice.oneIn(4);
        for (int i = 0; rulesFirst && i < 2 + dice.below(8); i++) {
            rule(texts.right());
        }
        for (int call = 0; call < CALLS && !check.hasFailed(); call += 4) {
            any();
        }
    }

    private void same(String call, long got, long due) {
        check.same("run " + run + ": " + call, got, due);
    }

    private void same(String call, boolean got, boolean due) {
        same(call, got ? 1 : 0, due ? 1 : 0);
    }

    private int mode() {
        return dice.oneIn(15) ? dice.below(9) - 3 : dice.below(3);
    }

    private void any() {
        switch (dice.below(14)) {
            case 0:
                rule(texts.some());
                break;
            case 1:
                type(dice.below(100) * 1234567891234L, dice.below(11) - 1);
                break;
            case 2:
                tables();
                break;
            case 3:
                differences();
                break;
            case 4:
                begin();
                break;
            case 5:
                end();
                break;
            case 6:
            case 7:
                tokens();
                break;
            case 8:
                same("never", x.never(-1), model.never(-1));
                for (int rule = 0; rule < 17; rule++) {
                    same("never " + rule, x.never(rule), model.never(rule));
                }
                break;
            default:
                feed();
        }
    }

    private void type(long word, int n) {
        same("type " + word + " " + n, x.type(word, n), model.type(word, n));
    }

    private void rule(String text) {
        for (int from = 0; from < text.length(); from += 8) {
            String some = text.substring(from, Math.min(text.length(), from + 8));
            type(Bench.packed(some), some.length());
        }
        int mode = mode();
        int action = dice.oneIn(15) ? dice.below(9) - 2 : dice.oneIn(2) ? 0 : dice.below(5);
        same("rule " + text + " " + mode + " " + action, x.rule(mode, action), model.rule(mode, action));
    }

    private void tables() {
        int mode = mode();
        int count = model.states(mode);
        same("states " + mode, x.states(mode), count);
        same("distance " + mode, x.distance(mode), model.distance(mode));
        for (int state = -1; state <= count; state++) {
            same("winner " + mode + " " + state, x.winner(mode, state), model.winner(mode, state));
            for (int letter = -1; letter <= 6; letter++) {
                same("next " + mode + " " + state + " " + letter,
                        x.next(mode, state, letter), model.next(mode, state, letter));
            }
        }
    }

    private void differences() {
        int one = mode();
        int other = mode();
        int length = model.differ(one, other);
        same("differ " + one + " " + other, x.differ(one, other), length);
        for (int i = -1; i <= length + 1; i++) {
            same("differing " + one + " " + other + " " + i,
                    x.differing(one, other, i), model.differing(one, other, i));
        }
    }

    private void begin() {
        int mode = mode();
        same("begin " + mode, x.begin(mode), model.begin(mode));
    }

    private void end() {
        if (dice.oneIn(3)) {
            same("end", x.end(), model.end());
        }
        state();
    }

    private void feed() {
        for (int i = dice.below(6); i >= 0; i--) {
            int word = 0;
            int spread = 1 + dice.below(8);
            for (int k = 0; k < 10; k++) {
                word = word << 3 | dice.below(spread);
            }
            int n = dice.oneIn(15) ? dice.below(14) - 2 : 1 + dice.below(10);
            same("feed " + word + " " + n, x.feed(word, n), model.feed(word, n));
            state();
        }
    }

    private void state() {
        same("ready", x.ready(), model.ready());
        for (int what = -1; what <= 4; what++) {
            same("stream " + what, x.stream(what), model.stream(what));
        }
    }

    private void tokens() {
        for (int n = dice.below(40); n > 0; n--) {
            for (int what = -1; what <= 4; what++) {
                same("token " + what, Bench.token(x, what), model.token(what));
            }
            same("take", Bench.take(x), model.take());
        }
        state();
    }
}
