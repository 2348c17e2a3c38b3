import java.util.ArrayList;
import java.util.HashMap;
import java.util.HashSet;
import java.util.List;
import java.util.Map;
import java.util.Set;

/** Reads the text of a hall by the forms of its statements, word by word, only to say where it goes wrong and how. */
final class PlainReader {
    private static final String[] FORMS = {
        "hall 2..9 2..6", "wall CELL", "door CELL",
        "person NAME at CELL slow SLOW dares 0..9 comes 0..4 walks STEPS SORT",
        "guard NAME at CELL sees 1..9 looks 1..20", "stroke 1..99", "open 1..30", "near 1..5", "enough 1..9"};
    private static final Set<String> OWN = Set.of("hall", "wall", "door", "person", "at", "slow", "dares", "comes",
        "walks", "passer", "guard", "sees", "looks", "stroke", "open", "near", "enough");
    private static final Map<String, Integer> MOST = Map.of("wall", 15, "door", 6, "person", 9, "guard", 4);

    private final Tokens tokens;
    private final Map<String, Integer> told = new HashMap<>();
    private final Map<String, Set<String>> cells = new HashMap<>();
    private final Set<String> names = new HashSet<>();
    private final List<Integer> sizes = new ArrayList<>();
    private int at = 0;

    private PlainReader(String text) {
        tokens = new Tokens(text);
        for (String kind : MOST.keySet()) {
            cells.put(kind, new HashSet<>());
        }
    }

    /** How many statements. */
    static int read(String text) throws Tokens.Fault {
        return new PlainReader(text).all();
    }

    private int all() throws Tokens.Fault {
        int statements = 0;
        while (statements == 0 || at < tokens.size()) {
            if (statements == 70) {
                throw new Tokens.Fault(5, tokens.place(at));
            }
            statement(statements == 0);
            statements++;
        }
        return statements;
    }

    private void statement(boolean first) throws Tokens.Fault {
        String kind = tokens.word(at);
        String form = null;
        for (String one : FORMS) {
            form = one.startsWith(kind + " ") ? one : form;
        }
        if (form == null || kind.equals("hall") != first) {
            throw here(1);
        }
        if (told.merge(kind, 1, Integer::sum) > MOST.getOrDefault(kind, 99)) {
            throw here(5);
        }
        for (String item : form.split(" ")) {
            item(kind, item);
        }
        literal(";");
    }

    private Tokens.Fault here(int fault) {
        return new Tokens.Fault(fault, tokens.place(at));
    }

    private void item(String kind, String item) throws Tokens.Fault {
        switch (item) {
            case "CELL": cell(kind); break;
            case "NAME": name(); break;
            case "SLOW": slow(); break;
            case "STEPS": steps(); break;
            case "SORT":
                if (tokens.word(at).equals("passer") && !tokens.isStuck(at)) {
                    at++;
                }
                break;
            default:
                if (item.contains("..")) {
                    String[] ends = item.split("\\.\\.");
                    int n = number(Integer.parseInt(ends[0]), Integer.parseInt(ends[1]), tokens.place(at));
                    if (kind.equals("hall")) {
                        sizes.add(n);
                    }
                } else {
                    literal(item);
                }
                break;
        }
    }

    private void literal(String word) throws Tokens.Fault {
        if (!tokens.word(at).equals(word) || tokens.isStuck(at)) {
            throw here(1);
        }
        at++;
    }

    private int number(int least, int most, int place) throws Tokens.Fault {
        if (!tokens.isNumber(at) || tokens.isStuck(at)) {
            throw here(1);
        }
        if (tokens.word(at).length() > 4) {
            throw new Tokens.Fault(1, tokens.place(at) + 4);
        }
        int n = Integer.parseInt(tokens.word(at));
        if (n < least || n > most) {
            throw new Tokens.Fault(2, place);
        }
        at++;
        return n;
    }

    private void cell(String kind) throws Tokens.Fault {
        int across = number(0, sizes.get(0) - 1, tokens.place(at));
        int second = tokens.place(at);
        String cell = across + " " + number(0, sizes.get(1) - 1, second);
        Set<String> unlike = new HashSet<>();
        if (kind.equals("wall")) {
            unlike.addAll(cells.get("person"));
            unlike.addAll(cells.get("guard"));
        } else {
            unlike.addAll(cells.get("wall"));
        }
        if (kind.equals("wall") || kind.equals("door")) {
            unlike.addAll(cells.get("door"));
        }
        if (unlike.contains(cell)) {
            throw new Tokens.Fault(2, second);
        }
        cells.get(kind).add(cell);
    }

    private void name() throws Tokens.Fault {
        String name = tokens.word(at);
        if (!name.matches("[a-z]+") || OWN.contains(name) || tokens.isStuck(at)) {
            throw here(1);
        }
        if (name.length() > 6) {
            throw new Tokens.Fault(1, tokens.place(at) + 6);
        }
        if (!names.add(name)) {
            throw here(3);
        }
        at++;
    }

    private void slow() throws Tokens.Fault {
        int place = tokens.place(at);
        if (tokens.word(at).equals("-")) {
            at++;
        }
        number(0, 60, place);
    }

    private void steps() throws Tokens.Fault {
        if (!tokens.word(at).matches("[neswx]{1,12}") || tokens.isStuck(at)) {
            throw here(1);
        }
        at++;
    }
}
