import java.util.Random;
import java.util.function.IntUnaryOperator;

/** A question made at random, with its answer worked out as it is made: a text and a function of the second. */
final class RandomQuestion {
    private static final int LIMIT = 1000000;
    private static final String[] ASKED = {"first", "last", "often", "total", "most", "least"};

    private final Random random;
    private final StringBuilder text = new StringBuilder();
    private final int asked;
    private final IntUnaryOperator value;
    private Model.Day day;
    private int comers;

    RandomQuestion(Random random) {
        this.random = random;
        asked = random.nextInt(6);
        word(ASKED[asked]);
        value = asked < 3 ? test(6) : sum(6, 3);
        blanks(0);
    }

    String text() {
        return text.toString();
    }

    long answer(Model.Day ofDay, int who) {
        day = ofDay;
        comers = who;
        long total = 0;
        long most = Long.MIN_VALUE;
        long least = Long.MAX_VALUE;
        long first = Model.NONE;
        long last = Model.NONE;
        long often = 0;
        for (int t = 0; t <= 200; t++) {
            int n = value.applyAsInt(t);
            total += n;
            most = Math.max(most, n);
            least = Math.min(least, n);
            often += n != 0 ? 1 : 0;
            first = n != 0 && first == Model.NONE ? t : first;
            last = n != 0 ? t : last;
        }
        return new long[] {first, last, often, total, most, least}[asked];
    }

    private void blanks(int least) {
        int many = least + (random.nextInt(4) == 0 ? random.nextInt(3) : 0);
        for (int k = 0; k < many; k++) {
            text.append(random.nextBoolean() ? ' ' : '\n');
        }
    }

    private void word(String word) {
        boolean needed = text.length() > 0 && Character.isLetterOrDigit(text.charAt(text.length() - 1));
        blanks(needed && Character.isLetterOrDigit(word.charAt(0)) ? 1 : 0);
        text.append(word);
    }

    private IntUnaryOperator test(int deep) {
        IntUnaryOperator all = both(deep);
        while (random.nextInt(4) == 0) {
            word("or");
            IntUnaryOperator left = all;
            IntUnaryOperator right = both(deep);
            all = t -> left.applyAsInt(t) != 0 || right.applyAsInt(t) != 0 ? 1 : 0;
        }
        return all;
    }

    private IntUnaryOperator both(int deep) {
        IntUnaryOperator all = fact(deep);
        while (random.nextInt(4) == 0) {
            word("and");
            IntUnaryOperator left = all;
            IntUnaryOperator right = fact(deep);
            all = t -> left.applyAsInt(t) != 0 && right.applyAsInt(t) != 0 ? 1 : 0;
        }
        return all;
    }

    private IntUnaryOperator fact(int deep) {
        int kind = random.nextInt(6);
        if (kind == 0 && deep > 0) {
            word("not");
            IntUnaryOperator one = fact(deep - 1);
            return t -> one.applyAsInt(t) != 0 ? 0 : 1;
        }
        if (kind == 1 && deep > 0) {
            word("[");
            IntUnaryOperator one = test(deep - 1);
            word("]");
            return one;
        }
        if (kind == 2 && random.nextInt(3) == 0) {
            word("all");
            return t -> 1;
        }
        IntUnaryOperator left = sum(deep, 2);
        int sign = random.nextInt(3);
        word("<>=".substring(sign, sign + 1));
        IntUnaryOperator right = sum(deep, 2);
        return t -> {
            int order = Integer.compare(left.applyAsInt(t), right.applyAsInt(t));
            return order == (sign == 0 ? -1 : sign == 1 ? 1 : 0) ? 1 : 0;
        };
    }

    private static int held(long n) {
        return n > LIMIT ? LIMIT : n < -LIMIT ? -LIMIT : (int) n;
    }

    private IntUnaryOperator sum(int deep, int most) {
        IntUnaryOperator all = product(deep);
        for (int k = 1; k < most && random.nextInt(3) == 0; k++) {
            boolean plus = random.nextBoolean();
            word(plus ? "+" : "-");
            IntUnaryOperator left = all;
            IntUnaryOperator right = product(deep);
            all = t -> held(left.applyAsInt(t) + (plus ? 1L : -1L) * right.applyAsInt(t));
        }
        return all;
    }

    private IntUnaryOperator product(int deep) {
        IntUnaryOperator all = part(deep);
        for (int k = 1; k < 3 && random.nextInt(3) == 0; k++) {
            boolean times = random.nextBoolean();
            word(times ? "*" : "/");
            IntUnaryOperator left = all;
            IntUnaryOperator right = part(deep);
            all = t -> {
                long a = left.applyAsInt(t);
                long b = right.applyAsInt(t);
                return times ? held(a * b) : b == 0 ? 0 : (int) Math.floor((double) a / b);
            };
        }
        return all;
    }

    private IntUnaryOperator part(int deep) {
        switch (random.nextInt(deep > 0 ? 12 : 7)) {
            case 0: return number();
            case 1: word("second"); return t -> t;
            case 2: word("open"); return t -> day.many(t, Model.OPEN);
            case 3: word("waits"); return t -> day.many(t, Model.WAITS);
            case 4: word("goes"); return t -> day.many(t, Model.GOES);
            case 5: word("outs"); return t -> day.many(t, Model.OUT);
            case 6: word("alarm"); return t -> day.alarm != Model.NONE && day.alarm <= t ? 1 : 0;
            case 7: return at(deep - 1);
            case 8: return does(deep - 1);
            case 9: word("("); IntUnaryOperator one = sum(deep - 1, 3); word(")"); return one;
            case 10: return pair("min", deep - 1);
            default: return pair("max", deep - 1);
        }
    }

    private IntUnaryOperator number() {
        int n = random.nextInt(random.nextBoolean() ? 12 : 10000);
        word(random.nextInt(8) == 0 ? String.format("%04d", n) : Integer.toString(n));
        return t -> n;
    }

    private IntUnaryOperator at(int deep) {
        word("at");
        IntUnaryOperator who = random.nextBoolean() ? person() : part(deep);
        return t -> {
            int p = who.applyAsInt(t);
            boolean there = p >= 0 && p < 9 && (comers >> p & 1) == 1 && day.doing[t][p] != Model.OUT;
            return there ? day.cell[t][p] : 99;
        };
    }

    private IntUnaryOperator does(int deep) {
        word("does");
        IntUnaryOperator who = random.nextBoolean() ? person() : part(deep);
        return t -> {
            int p = who.applyAsInt(t);
            return p >= 0 && p < 9 && (comers >> p & 1) == 1 ? day.doing[t][p] : 0;
        };
    }

    private IntUnaryOperator person() {
        int n = random.nextInt(10);
        word(Integer.toString(n));
        return t -> n;
    }

    private IntUnaryOperator pair(String word, int deep) {
        word(word);
        word("(");
        IntUnaryOperator left = sum(deep, 2);
        word(",");
        IntUnaryOperator right = sum(deep, 2);
        word(")");
        return t -> word.equals("min") ? Math.min(left.applyAsInt(t), right.applyAsInt(t))
            : Math.max(left.applyAsInt(t), right.applyAsInt(t));
    }
}
