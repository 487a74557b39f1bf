import com.sun.management.ThreadMXBean;
import java.lang.management.ManagementFactory;

/** Runs of 512 calls, the most that an object is used for: their answers hold, and they make little. */
public final class LongRunsTest {
    private static final int CALLS = 512;
    /** Far below the room of a run: 600,000 objects alone are more than twice as much. */
    private static final long BYTES = 4_000_000;
    private static final String GREATEST = "(b+........)+";

    private static final Check CHECK = new Check();
    private static final ThreadMXBean THREADS = (ThreadMXBean) ManagementFactory.getThreadMXBean();

    private interface Run {
        void go(TokenBench x);
    }

    public static void main(String[] args) {
        CHECK.of("An object is used for at most 512 calls");
        room("feed and take", LongRunsTest::feedAndTake);
        room("distances and differences", LongRunsTest::greatestMachines);
        room("wrong texts", LongRunsTest::wrongTexts);
        room("begin and end", LongRunsTest::beginAndEnd);
        room("rules, each with a distance", LongRunsTest::rulesAndDistances);
        CHECK.close();
    }

    private static void room(String what, Run run) {
        run.go(new TokenBench());
        long before = THREADS.getCurrentThreadAllocatedBytes();
        run.go(new TokenBench());
        long made = THREADS.getCurrentThreadAllocatedBytes() - before;
        CHECK.yes(what + " made " + made + " bytes", made < BYTES);
    }

    private static void feedAndTake(TokenBench x) {
        x.type(0x612bL, 2);
        x.rule(0, 0);
        x.begin(0);
        int came = 0;
        int taken = 0;
        for (int calls = 3; calls + 3 <= CALLS; calls += 3) {
            came += x.feed(0, 10);
            if (x.ready() > 0) {
                taken += x.token(1) == 48 * taken ? 1 : 0;
                x.take();
                calls += 2;
            }
        }
        CHECK.same("tokens of 48 letters each", taken, came / 48);
        CHECK.same("came", x.stream(3), came);
        CHECK.same("pending", x.stream(0), came % 48);
    }

    private static void greatestMachines(TokenBench x) {
        for (int mode = 0; mode < 3; mode++) {
            Bench.rule(x, GREATEST, mode);
        }
        boolean right = true;
        for (int calls = 9; calls + 5 <= CALLS; calls += 5) {
            int mode = calls % 3;
            right &= x.distance(mode) == 9 && x.states(mode) == 512 && !x.never(mode);
            right &= x.differ(mode, (mode + 1) % 3) == -1 && x.differing(mode, (mode + 2) % 3, 0) == -1;
        }
        CHECK.yes("all answers of the greatest machines", right);
    }

    private static void wrongTexts(TokenBench x) {
        boolean right = true;
        for (int calls = 0; calls + 4 <= CALLS; calls += 4) {
            right &= x.type(0x612a612a612a612aL, 8) && x.type(0x612b2a2a61612a3fL, 8);
            right &= x.type(0x6161616161616128L, 8) && x.rule(calls % 3, 0) == -26;
        }
        CHECK.yes("all answers to wrong texts", right);
    }

    private static void beginAndEnd(TokenBench x) {
        boolean right = true;
        for (int calls = 0; calls + 4 <= CALLS; calls += 4) {
            right &= x.begin(calls % 3) && x.feed(0, 10) == 10 && x.end() && x.ready() == 10;
        }
        CHECK.yes("all answers of short streams", right);
    }

    private static void rulesAndDistances(TokenBench x) {
        int rules = 0;
        for (int calls = 0; calls + 4 <= CALLS; calls += 4) {
            x.type('a' + rules % 6, 1);
            rules += x.rule(rules % 3, 0) >= 0 ? 1 : 0;
            x.distance(rules % 3);
            x.differ(rules % 3, (rules + 1) % 3);
        }
        CHECK.same("rules", rules, 16);
    }
}
