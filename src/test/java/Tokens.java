import java.util.ArrayList;
import java.util.List;
import java.util.regex.Matcher;
import java.util.regex.Pattern;

/** A text cut into words, numbers and single signs by a pattern, as plainly as it goes. */
final class Tokens {
    private static final Pattern ONE = Pattern.compile("[a-z]+|[0-9]+|[^ \n]", Pattern.DOTALL);

    /** Where a text goes wrong, and how. */
    static final class Fault extends Exception {
        private static final long serialVersionUID = 1L;
        final int kind;
        final int place;

        Fault(int kind, int place) {
            super(null, null, false, false);
            this.kind = kind;
            this.place = place;
        }
    }

    final List<String> words = new ArrayList<>();
    final List<Integer> places = new ArrayList<>();
    final int length;

    Tokens(String text) {
        length = text.length();
        Matcher m = ONE.matcher(text);
        while (m.find()) {
            words.add(m.group());
            places.add(m.start());
        }
    }

    int size() {
        return words.size();
    }

    /** The word there, empty behind the last. */
    String word(int k) {
        return k < size() ? words.get(k) : "";
    }

    int place(int k) {
        return k < size() ? places.get(k) : length;
    }

    boolean isNumber(int k) {
        return word(k).matches("[0-9]+");
    }

    /** Whether a word and a number, or a number and a word, stand without a blank between them. */
    boolean isStuck(int k) {
        if (k == 0 || k >= size() || place(k - 1) + word(k - 1).length() < place(k)) {
            return false;
        }
        return (word(k - 1) + " " + word(k)).matches("[a-z]+ [0-9]+|[0-9]+ [a-z]+");
    }
}
