/** Promise 7 (distance). */
public final class DistanceTest {
    private static final Check CHECK = new Check();

    public static void main(String[] args) {
        due(0);
        due(0, "a");
        due(0, "a", "b", "cd");
        due(0, "abc|def");
        due(1, "a+");
        due(1, "a|ab");
        due(2, "a", "aab", "b+");
        due(2, "a", "aab");
        due(2, "a", "abc");
        due(3, "(abc)+");
        due(2, "(ab)+");
        due(7, "a", "abcdefab");
        due(4, "a|abbbb", "ab?c");
        due(-1, "a", "ab*c");
        due(-1, "(a|b)*abb");
        due(-1, ".*a.......");
        due(-1, "a(bc)*d|a");
        due(1, "ab*");
        due(0, "b*c");
        due(5, "ab?c?d?e?a", "a");
        noSuchMode();
        eachModeItsOwn();
        CHECK.close();
    }

    private static void due(int distance, String... texts) {
        CHECK.same("distance of " + String.join(" ", texts), Bench.with(texts).distance(0), distance);
    }

    private static void noSuchMode() {
        TokenBench x = Bench.with("a");
        for (int mode : new int[] {-1, 3, Integer.MIN_VALUE, Integer.MAX_VALUE}) {
            CHECK.same("distance of mode " + mode, x.distance(mode), -2);
        }
    }

    private static void eachModeItsOwn() {
        TokenBench x = new TokenBench();
        Bench.rule(x, "a", 0);
        Bench.rule(x, "a+", 1);
        Bench.rule(x, "a|ab+c", 2);
        CHECK.same("mode 0", x.distance(0), 0);
        CHECK.same("mode 1", x.distance(1), 1);
        CHECK.same("mode 2", x.distance(2), -1);
        Bench.rule(x, "abc", 0);
        CHECK.same("mode 0 with a rule more", x.distance(0), 2);
    }
}
