import java.util.ArrayList;
import java.util.HashMap;
import java.util.LinkedHashSet;
import java.util.List;
import java.util.Map;
import java.util.Set;

/**
 * The document's rules of a question, with which words can stand behind words: a question goes on with a word if there
 * is any with these words ahead. One set of rules lets six be open at once, another one seven: a word with which only
 * the second goes on is the 7th.
 */
final class QuestionGrammar {
    /** A rule, how much of it is there already, and at which word it began. */
    private record Item(String head, List<String> body, int there, int from) {
        String next() {
            return there < body.size() ? body.get(there) : "";
        }

        Item on() {
            return new Item(head, body, there + 1, from);
        }
    }

    private static final String[] RULES = {
        "TEST: BOTH", "TEST: TEST or BOTH", "BOTH: FACT", "BOTH: BOTH and FACT",
        "FACT: not FACT+", "FACT: [ TEST+ ]", "FACT: all", "FACT: SUM < SUM", "FACT: SUM > SUM", "FACT: SUM = SUM",
        "SUM: PRODUCT", "SUM: SUM + PRODUCT", "SUM: SUM - PRODUCT",
        "PRODUCT: PART", "PRODUCT: PRODUCT * PART", "PRODUCT: PRODUCT / PART",
        "PART: NUMBER", "PART: second", "PART: open", "PART: waits", "PART: goes", "PART: outs", "PART: alarm",
        "PART: at PART+", "PART: does PART+", "PART: ( SUM+ )", "PART: min PAIR", "PART: max PAIR", "PAIR: ( SUM+ , SUM+ )"};
    private static final String[] WHOLE = {"first TEST0", "last TEST0", "often TEST0", "total SUM0", "most SUM0",
        "least SUM0"};
    private static final QuestionGrammar SIX = new QuestionGrammar(6);
    private static final QuestionGrammar SEVEN = new QuestionGrammar(7);

    private final Map<String, List<List<String>>> rules = new HashMap<>();

    private QuestionGrammar(int deepest) {
        for (String whole : WHOLE) {
            rules.computeIfAbsent("QUESTION", k -> new ArrayList<>()).add(List.of(whole.split(" ")));
        }
        for (String rule : RULES) {
            String head = rule.substring(0, rule.indexOf(':'));
            for (int depth = 0; depth <= deepest; depth++) {
                List<String> body = new ArrayList<>();
                for (String word : rule.substring(rule.indexOf(':') + 2).split(" ")) {
                    boolean plain = !word.matches("[A-Z]+\\+?") || word.equals("NUMBER");
                    boolean inside = word.length() > 1 && word.endsWith("+");
                    body.add(plain ? word : inside ? word.replace("+", "") + (depth + 1) : word + depth);
                }
                if (!rule.matches(".*[A-Z]\\+.*") || depth < deepest) {
                    rules.computeIfAbsent(head + depth, k -> new ArrayList<>()).add(body);
                }
            }
        }
    }

    static void read(String text) throws Tokens.Fault {
        Tokens tokens = new Tokens(text);
        int six = SIX.goesOnUntil(tokens);
        if (six == tokens.size()) {
            if (!SIX.isWhole(tokens)) {
                throw new Tokens.Fault(1, tokens.length);
            }
            return;
        }
        boolean fifthDigit = tokens.isNumber(six) && tokens.word(six).length() > 4 && SIX.asksNumber(tokens, six);
        if (fifthDigit && !tokens.isStuck(six)) {
            throw new Tokens.Fault(1, tokens.place(six) + 4);
        }
        throw new Tokens.Fault(SEVEN.goesOnUntil(tokens) > six ? 4 : 1, tokens.place(six));
    }

    /** For each number of words all rules that may stand open behind them; it ends with the first empty set. */
    private List<Set<Item>> sets(Tokens tokens, int most) {
        List<Set<Item>> sets = new ArrayList<>();
        Set<Item> now = new LinkedHashSet<>();
        for (List<String> body : rules.get("QUESTION")) {
            now.add(new Item("QUESTION", body, 0, 0));
        }
        sets.add(now);
        for (int k = 0; k <= most; k++) {
            Set<Item> then = widen(sets, k, k < most && !tokens.isStuck(k) ? terminal(tokens, k) : " ");
            if (k < most) {
                if (then.isEmpty()) {
                    break;
                }
                sets.add(then);
            }
        }
        return sets;
    }

    private static String terminal(Tokens tokens, int k) {
        return tokens.isNumber(k) ? tokens.word(k).length() > 4 ? "LONG" : "NUMBER" : tokens.word(k);
    }

    /** No rule has an empty body, so what is done at a word began ahead of it. */
    private Set<Item> widen(List<Set<Item>> sets, int k, String word) {
        List<Item> open = new ArrayList<>(sets.get(k));
        Set<Item> known = sets.get(k);
        Set<Item> then = new LinkedHashSet<>();
        for (int i = 0; i < open.size(); i++) {
            Item one = open.get(i);
            String next = one.next();
            List<Item> more = new ArrayList<>();
            if (next.isEmpty()) {
                for (Item asked : new ArrayList<>(sets.get(one.from()))) {
                    if (asked.next().equals(one.head())) {
                        more.add(asked.on());
                    }
                }
            } else if (rules.containsKey(next)) {
                for (List<String> body : rules.get(next)) {
                    more.add(new Item(next, body, 0, k));
                }
            } else if (next.equals(word)) {
                then.add(one.on());
            }
            for (Item another : more) {
                if (known.add(another)) {
                    open.add(another);
                }
            }
        }
        return then;
    }

    private int goesOnUntil(Tokens tokens) {
        return sets(tokens, tokens.size()).size() - 1;
    }

    private boolean isWhole(Tokens tokens) {
        List<Set<Item>> sets = sets(tokens, tokens.size());
        for (Item one : sets.get(sets.size() - 1)) {
            if (one.head().equals("QUESTION") && one.next().isEmpty()) {
                return true;
            }
        }
        return false;
    }

    private boolean asksNumber(Tokens tokens, int k) {
        List<Set<Item>> sets = sets(tokens, k);
        for (Item one : sets.get(k)) {
            if (one.next().equals("NUMBER")) {
                return true;
            }
        }
        return false;
    }
}
