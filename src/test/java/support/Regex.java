import java.util.HashMap;
import java.util.Map;
import java.util.TreeMap;

/**
 * A rule's text as a tree, matched by derivatives: another way than the program's. Trees are kept
 * in a plain form, so that one that matches nothing is always NOTHING.
 */
final class Regex {
    static final class Wrong extends Exception {
        private static final long serialVersionUID = 1;
        final int place;

        Wrong(int place) {
            this.place = place;
        }
    }

    static final Regex NOTHING = new Regex('0', 0, null, null);
    static final Regex EMPTY = new Regex('1', 0, null, null);

    private final char kind;
    private final int letters;
    private final Regex one;
    private final Regex two;
    final String key;
    private final Map<Integer, Regex> derivatives = new HashMap<>();

    private Regex(char kind, int letters, Regex one, Regex two) {
        this.kind = kind;
        this.letters = letters;
        this.one = one;
        this.two = two;
        this.key = kind + (kind == 's' ? "" + letters : "")
                + (one == null ? "" : "(" + one.key + ")") + (two == null ? "" : "(" + two.key + ")");
    }

    private static Regex set(int letters) {
        return new Regex('s', letters, null, null);
    }

    private static Regex then(Regex a, Regex b) {
        if (a == NOTHING || b == NOTHING) {
            return NOTHING;
        }
        if (a == EMPTY) {
            return b;
        }
        if (b == EMPTY) {
            return a;
        }
        if (a.kind == '.') {
            return then(a.one, then(a.two, b));
        }
        return new Regex('.', 0, a, b);
    }

    private static Regex or(Regex a, Regex b) {
        TreeMap<String, Regex> choices = new TreeMap<>();
        a.collect(choices);
        b.collect(choices);
        Regex all = NOTHING;
        for (Regex choice : choices.descendingMap().values()) {
            all = all == NOTHING ? choice : new Regex('|', 0, choice, all);
        }
        return all;
    }

    private void collect(Map<String, Regex> choices) {
        if (kind == '|') {
            one.collect(choices);
            two.collect(choices);
        } else if (this != NOTHING) {
            choices.put(key, this);
        }
    }

    private static Regex star(Regex a) {
        return a.kind == '*' || a == EMPTY || a == NOTHING ? (a.kind == '*' ? a : EMPTY) : new Regex('*', 0, a, null);
    }

    boolean matchesEmpty() {
        switch (kind) {
            case '1':
            case '*':
                return true;
            case '.':
                return one.matchesEmpty() && two.matchesEmpty();
            case '|':
                return one.matchesEmpty() || two.matchesEmpty();
            default:
                return false;
        }
    }

    Regex after(int letter) {
        Regex known = derivatives.get(letter);
        if (known == null) {
            known = derive(letter);
            derivatives.put(letter, known);
        }
        return known;
    }

    private Regex derive(int letter) {
        switch (kind) {
            case 's':
                return (letters >> letter & 1) != 0 ? EMPTY : NOTHING;
            case '*':
                return then(one.after(letter), this);
            case '|':
                return or(one.after(letter), two.after(letter));
            case '.':
                Regex inside = then(one.after(letter), two);
                return one.matchesEmpty() ? or(inside, two.after(letter)) : inside;
            default:
                return NOTHING;
        }
    }

    /** The same in the words of java.util.regex. */
    String forJava() {
        switch (kind) {
            case '1':
                return "";
            case 's':
                StringBuilder set = new StringBuilder("[");
                for (int i = 0; i < 6; i++) {
                    set.append((letters >> i & 1) != 0 ? "" + (char) ('a' + i) : "");
                }
                return set.append("]").toString();
            case '*':
                return "(?:" + one.forJava() + ")*";
            case '|':
                return "(?:" + one.forJava() + "|" + two.forJava() + ")";
            case '.':
                return one.forJava() + two.forJava();
            default:
                return "[^a-f]";
        }
    }

    static Regex of(String text) throws Wrong {
        return new Parser(text).whole();
    }

    static int placesOf(String text) throws Wrong {
        Parser parser = new Parser(text);
        parser.whole();
        return parser.places;
    }

    private static final class Parser {
        private final String text;
        private int at = 0;
        int places = 0;

        Parser(String text) {
            this.text = text;
        }

        Regex whole() throws Wrong {
            Regex all = choice(0);
            if (at < text.length()) {
                throw new Wrong(at);
            }
            return all;
        }

        private char here() {
            return at < text.length() ? text.charAt(at) : '\uffff';
        }

        private boolean isLetter() {
            return here() >= 'a' && here() <= 'f';
        }

        private int letter() throws Wrong {
            if (!isLetter()) {
                throw new Wrong(at);
            }
            return text.charAt(at++) - 'a';
        }

        private boolean skip(char c) {
            boolean is = here() == c;
            at += is ? 1 : 0;
            return is;
        }

        private void need(char c) throws Wrong {
            if (!skip(c)) {
                throw new Wrong(at);
            }
        }

        private Regex choice(int depth) throws Wrong {
            Regex all = sequence(depth);
            while (skip('|')) {
                all = or(all, sequence(depth));
            }
            return all;
        }

        private Regex sequence(int depth) throws Wrong {
            Regex all = part(depth);
            while (isLetter() || ".[(".indexOf(here()) >= 0) {
                all = then(all, part(depth));
            }
            return all;
        }

        private Regex part(int depth) throws Wrong {
            Regex atom = atom(depth);
            while (true) {
                if (skip('*')) {
                    atom = star(atom);
                } else if (skip('+')) {
                    atom = then(atom, star(atom));
                } else if (skip('?')) {
                    atom = or(EMPTY, atom);
                } else {
                    return atom;
                }
            }
        }

        private Regex atom(int depth) throws Wrong {
            if (here() == '(') {
                if (depth == 4) {
                    throw new Wrong(at);
                }
                at++;
                Regex inside = choice(depth + 1);
                need(')');
                return inside;
            }
            places++;
            if (skip('.')) {
                return set(63);
            }
            return skip('[') ? letters() : set(1 << letter());
        }

        private Regex letters() throws Wrong {
            boolean others = skip('^');
            int named = 0;
            do {
                int from = letter();
                int to = from;
                if (skip('-')) {
                    int place = at;
                    to = letter();
                    if (to < from) {
                        throw new Wrong(place);
                    }
                }
                for (int i = from; i <= to; i++) {
                    named |= 1 << i;
                }
            } while (isLetter());
            if (others && named == 63) {
                throw new Wrong(at);
            }
            need(']');
            return set(others ? 63 & ~named : named);
        }
    }
}
