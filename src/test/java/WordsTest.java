import java.util.ArrayList;
import java.util.List;
import java.util.regex.Pattern;

/** Promises 3 to 9, on all short words: the winners that java.util.regex finds. */
public final class WordsTest {
    private static final int LONGEST = 6;
    private static final Check CHECK = new Check();

    public static void main(String[] args) throws Regex.Wrong {
        List<String> words = new ArrayList<>(List.of(""));
        for (int i = 0; words.get(i).length() < LONGEST; i++) {
            for (char letter = 'a'; letter <= 'c'; letter++) {
                words.add(words.get(i) + letter);
            }
        }
        for (int round = 1; round <= 150; round++) {
            mode(new Dice(round * 31L), words);
        }
        CHECK.close();
    }

    private static void mode(Dice dice, List<String> words) throws Regex.Wrong {
        TokenBench x = new TokenBench();
        List<Pattern> patterns = new ArrayList<>();
        Texts texts = new Texts(dice);
        for (int i = 0; i < 4; i++) {
            String text = texts.right();
            if (Bench.rule(x, text, 0) >= 0) {
                patterns.add(Pattern.compile(Regex.of(text).forJava()));
            }
        }
        for (String word : words) {
            int due = -1;
            for (int i = patterns.size() - 1; i >= 0 && !word.isEmpty(); i--) {
                due = patterns.get(i).matcher(word).matches() ? i : due;
            }
            CHECK.same("winner of " + word + " by " + patterns, Bench.winnerOf(x, 0, word), due);
        }
    }
}
