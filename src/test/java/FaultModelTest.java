import java.util.Random;

/**
 * Promises 4, 5 and 26: texts and questions with something torn out, put in or turned, where each has its fault held
 * against plain readers of the document's rules.
 */
public final class FaultModelTest {
    private static final String[] BITS = {"hall", "wall", "door", "person", "guard", "stroke", "open", "near", "enough",
        "at", "slow", "dares", "comes", "walks", "passer", "sees", "looks", "first", "last", "often", "total", "most",
        "least", "or", "and", "not", "all", "second", "waits", "goes", "outs", "alarm", "does", "min", "max", ";", "-",
        "+", "*", "/", "<", ">", "=", "(", ")", "[", "]", ",", "0", "1", "2", "3", "9", "60", "61", "100", "9999",
        "00001", "12345", "pa", "pb", "ga", "abcdef", "abcdefg", "nesw", "neswxneswxne", "neswxneswxnes", "x", "q", ".",
        "\t", "\u0000", "\u00e9", "A", " ", "\n"};
    private static final String[] STATEMENTS = {"wall 0 0;", "wall 1 1;", "door 0 0;", "door 1 0;", "door 0 1;",
        "person # at 0 0 slow 1 dares 1 comes 1 walks n;", "person # at 1 1 slow -60 dares 0 comes 4 walks x passer;",
        "guard # at 1 0 sees 1 looks 1;", "stroke 9;", "open 2;", "near 5;", "enough 9;"};
    private static final String HALL = "hall 4 3;door 0 0;person a at 1 0 slow 0 dares 0 comes 4 walks x;stroke 3;";

    private final Check check = new Check("FaultModelTest");
    private final int[] seen = new int[6];
    private final Random random;
    private StrokeHall asked;

    private FaultModelTest(int seed) {
        random = new Random(seed);
    }

    public static void main(String[] args) {
        FaultModelTest test = new FaultModelTest(args.length > 0 ? Integer.parseInt(args[0]) : 1);
        int many = args.length > 1 ? Integer.parseInt(args[1]) : 4000;
        for (int k = 0; k < many; k++) {
            test.text();
        }
        test.allSeen("texts", new int[] {0, 1, 2, 3, 5}, many / 100);
        for (int k = 0; k < many / 2; k++) {
            test.question();
        }
        test.allSeen("questions", new int[] {0, 1, 4}, many / 100);
        test.check.finish();
    }

    /** The random texts are of no use if one of the faults hardly ever stands in them. */
    private void allSeen(String what, int[] kinds, int least) {
        for (int kind : kinds) {
            check.due(what + " with FAULT " + kind + ": " + seen[kind], seen[kind] >= least, true);
        }
        java.util.Arrays.fill(seen, 0);
    }

    private String any(String[] of) {
        return of[random.nextInt(of.length)];
    }

    private void text() {
        boolean isLong = random.nextInt(8) == 0;
        StringBuilder text = new StringBuilder(isLong ? "hall 9 6;" : Model.random(random).text);
        int more = isLong ? 60 + random.nextInt(20) : random.nextInt(random.nextInt(3) == 0 ? 50 : 4);
        for (int k = 0; k < more && text.length() < 1400; k++) {
            String name = random.nextInt(3) == 0 ? any(new String[] {"pa", "ga", "q"}) : "n" + (char) ('a' + k % 26)
                + (char) ('a' + k / 26);
            boolean rule = random.nextInt(isLong ? 20 : 4) > 0;
            text.append(rule ? "near 1;" : any(STATEMENTS).replace("#", name));
        }
        tear(text);
        StrokeHall hall = new StrokeHall();
        Check.tape(hall, text.toString());
        int fault = 0;
        int place = StrokeHall.NONE;
        int statements = StrokeHall.NONE;
        try {
            statements = PlainReader.read(text.toString());
        } catch (Tokens.Fault f) {
            fault = f.kind;
            place = f.place;
        }
        seen[fault]++;
        check.due("text() of " + text, hall.text(), statements);
        faultDue(hall, text.toString(), fault, place);
    }

    private void faultDue(StrokeHall hall, String text, int fault, int place) {
        check.due("fault(0) of " + text, hall.fault(0), fault);
        check.due("fault(1) of " + text, hall.fault(1), place);
    }

    /** Now and then nothing, else one to three changes of a byte, a word or a number; 1600 bytes at most. */
    private void tear(StringBuilder text) {
        int many = random.nextInt(5) == 0 ? 0 : 1 + random.nextInt(3);
        for (int k = 0; k < many && text.length() > 0; k++) {
            Tokens tokens = new Tokens(text.toString());
            int one = random.nextInt(Math.max(1, tokens.size()));
            int from = tokens.place(one);
            int to = from + tokens.word(one).length();
            switch (random.nextInt(8)) {
                case 0: text.deleteCharAt(random.nextInt(text.length())); break;
                case 1: text.insert(random.nextInt(text.length() + 1), any(BITS)); break;
                case 2: text.replace(from, to, any(BITS)); break;
                case 3: text.delete(from, to); break;
                case 4: text.insert(from, any(BITS) + " "); break;
                case 5: text.setLength(random.nextInt(text.length() + 1)); break;
                case 6: text.insert(to, tokens.word(one)); break;
                default: otherNumber(text, tokens, one); break;
            }
        }
        text.setLength(Math.min(1600, text.length()));
    }

    private void otherNumber(StringBuilder text, Tokens tokens, int from) {
        for (int k = from; k < tokens.size(); k++) {
            if (tokens.isNumber(k)) {
                int n = random.nextInt(random.nextInt(3) == 0 ? 130 : 12);
                text.replace(tokens.place(k), tokens.place(k) + tokens.word(k).length(), "" + n);
                return;
            }
        }
    }

    private void question() {
        StringBuilder text = new StringBuilder(new RandomQuestion(random).text());
        int deeper = random.nextInt(3) == 0 ? random.nextInt(12) : 0;
        for (int k = 0; k < deeper; k++) {
            putDeeper(text);
        }
        if (random.nextInt(3) > 0) {
            tear(text);
        }
        text.setLength(Math.min(1600, text.length()));
        asked = Check.told(HALL);
        Check.tape(asked, text.toString());
        int fault = 0;
        int place = StrokeHall.NONE;
        try {
            QuestionGrammar.read(text.toString());
        } catch (Tokens.Fault f) {
            fault = f.kind;
            place = f.place;
        }
        seen[fault]++;
        check.due("ask() of " + text + " is refused", asked.ask() == StrokeHall.NOTHING, fault != 0);
        faultDue(asked, text.toString(), fault, place);
    }

    /** One number, or one "all", stands one deeper. */
    private void putDeeper(StringBuilder text) {
        Tokens tokens = new Tokens(text.toString());
        int one = random.nextInt(Math.max(1, tokens.size()));
        for (int k = one; k < tokens.size(); k++) {
            String word = tokens.word(k);
            int from = tokens.place(k);
            if (tokens.isNumber(k)) {
                String[] ways = {"(#)", "at #", "does #", "min(#, 2)", "max(1, #)"};
                text.replace(from, from + word.length(), " " + any(ways).replace("#", word) + " ");
                return;
            }
            if (word.equals("all")) {
                text.replace(from, from + word.length(), random.nextBoolean() ? "not all" : "[all]");
                return;
            }
        }
    }
}
