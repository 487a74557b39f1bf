/** Makes texts of rules: right ones, and some with a wrong character. */
final class Texts {
    private static final String CHARACTERS = "abcdefg.[]^-()|*+?A\u00ff\u0000 ";

    private final Dice dice;
    private final String letters;

    Texts(Dice dice) {
        this.dice = dice;
        String[] some = {"ab", "ab", "abc", "abcdef", "ef", "adf"};
        letters = some[dice.below(some.length)];
    }

    String some() {
        if (dice.oneIn(12)) {
            return noise();
        }
        String text = right();
        return dice.oneIn(8) ? spoiled(text) : text;
    }

    String right() {
        String text = choice(1 + dice.below(6), 0);
        return text.length() <= 24 ? text : "" + dice.of(letters);
    }

    private String noise() {
        StringBuilder text = new StringBuilder();
        for (int n = dice.below(10); n > 0; n--) {
            text.append(dice.of(CHARACTERS));
        }
        return text.toString();
    }

    private String spoiled(String text) {
        int at = dice.below(text.length());
        switch (dice.below(3)) {
            case 0:
                return text.substring(0, at);
            case 1:
                return text.substring(0, at) + dice.of(CHARACTERS) + text.substring(at + 1);
            default:
                return text.substring(0, at) + text.substring(at + 1);
        }
    }

    /** A choice with about so many places. */
    private String choice(int places, int depth) {
        if (places > 1 && dice.oneIn(5)) {
            int first = 1 + dice.below(places - 1);
            return choice(first, depth) + "|" + choice(places - first, depth);
        }
        StringBuilder sequence = new StringBuilder();
        for (int left = places; left > 0;) {
            int now = dice.oneIn(4) && depth < 4 ? 1 + dice.below(left) : 1;
            sequence.append(now > 1 || dice.oneIn(9) && depth < 4 ? "(" + choice(now, depth + 1) + ")" : place());
            while (dice.oneIn(3)) {
                sequence.append(dice.of("*+?"));
            }
            left -= now;
        }
        return sequence.toString();
    }

    private String place() {
        switch (dice.below(6)) {
            case 0:
                return ".";
            case 1:
                return set();
            default:
                return "" + dice.of(letters);
        }
    }

    private String set() {
        StringBuilder set = new StringBuilder(dice.oneIn(2) ? "[^" : "[");
        for (int n = 1 + dice.below(2); n > 0; n--) {
            char from = dice.of(letters);
            char to = dice.of("abcdef");
            set.append(from).append(to >= from && dice.oneIn(3) ? "-" + to : "");
        }
        return set.append("]").toString();
    }
}
