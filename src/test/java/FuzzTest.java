import java.util.Random;

/** Any calls with any arguments in any state: nothing is thrown, and the same calls give the same answers. */
public final class FuzzTest {
    private static final int[] EDGES = {-1, 0, 1, 2, 3, 5, 6, 9, 15, 20, 53, 54, 60, 120, 121, 200, 201, 255, 511, 1600,
        Integer.MAX_VALUE, Integer.MIN_VALUE};
    private static final String[] BITS = {"hall ", "wall ", "door ", "person ", "guard ", "stroke ", "open ", "near ",
        "enough ", "at ", "slow ", "dares ", "comes ", "walks ", "passer ", "sees ", "looks ", "first ", "last ",
        "often ", "total ", "most ", "least ", "or ", "and ", "not ", "all ", "second ", "waits ", "goes ", "outs ",
        "alarm ", "does ", "min(", "max(", ";", "; ", "-", "+", "*", "/", "<", ">", "=", "(", ")", "[", "]", ",", "0 ",
        "1 ", "2 ", "3 ", "12345", "ann", "nesw", "x", " ", "\n", "\t", "\u0000", "\u00ff", "?"};

    public static void main(String[] args) {
        Check check = new Check("FuzzTest");
        for (int seed = 0; seed < 400; seed++) {
            long one = play(seed);
            long other = play(seed);
            check.due("the same calls of " + seed, other, one);
        }
        check.finish();
    }

    private static int any(Random r) {
        return r.nextInt(6) == 0 ? r.nextInt() : r.nextInt(3) == 0 ? EDGES[r.nextInt(EDGES.length)] : r.nextInt(10);
    }

    /** A text, a question or an image, now and then with something torn out, put in or turned. */
    private static String anyText(Random r, StrokeHall hall) {
        StringBuilder text = new StringBuilder();
        int kind = r.nextInt(5);
        if (kind == 0) {
            text.append(Model.random(r).text);
        } else if (kind == 1) {
            text.append(new RandomQuestion(r).text());
        } else if (kind == 2) {
            int many = hall.image();
            for (int k = 0; k < many; k++) {
                text.append((char) hall.octet(k));
            }
        } else {
            int many = r.nextInt(40);
            for (int k = 0; k < many; k++) {
                text.append(BITS[r.nextInt(BITS.length)]);
            }
        }
        for (int k = r.nextInt(3); k > 0 && text.length() > 0; k--) {
            int at = r.nextInt(text.length());
            if (r.nextBoolean()) {
                text.deleteCharAt(at);
            } else {
                text.insert(at, BITS[r.nextInt(BITS.length)]);
            }
        }
        return text.toString();
    }

    private static long play(int seed) {
        Random r = new Random(seed);
        StrokeHall hall = Check.told(Model.random(r).text);
        long sum = 0;
        for (int k = 0; k < 300; k++) {
            sum = 31 * sum + call(r, hall);
        }
        return sum;
    }

    private static long call(Random r, StrokeHall hall) {
        int a = any(r);
        int b = any(r);
        int c = any(r);
        switch (r.nextInt(40)) {
            case 0: return hall.feed(a, b, c, any(r), any(r));
            case 1: return hall.end(a) ? 1 : 0;
            case 2: return hall.text();
            case 3: return hall.fault(a);
            case 4: return hall.hall(a);
            case 5: return hall.letter(a, b, c);
            case 6: return hall.person(a, b);
            case 7: return hall.guard(a, b);
            case 8: return hall.door(a, b);
            case 9: return hall.where(a, b);
            case 10: return hall.does(a, b);
            case 11: return hall.count(a, b);
            case 12: return hall.whole(a);
            case 13: return hall.set(a, b, c);
            case 14: return hall.close(a, r.nextBoolean()) ? 1 : 0;
            case 15: return hall.undo() ? 1 : 0;
            case 16: return hall.come(a) ? 1 : 0;
            case 17: return hall.lot();
            case 18: return hall.seed(a) ? 1 : 0;
            case 19: return r.nextInt(5) == 0 ? hall.odds() : 0;
            case 20: return hall.spark(a);
            case 21: return hall.daring(a);
            case 22: return hall.late(a);
            case 23: return hall.post(a, b);
            case 24: return hall.ask();
            case 25: return hall.image();
            case 26: return hall.octet(a);
            case 27: return hall.on() ? 1 : 0;
            default: return fedCall(r, hall);
        }
    }

    private static long fedCall(Random r, StrokeHall hall) {
        hall.end(0);
        Check.tape(hall, anyText(r, hall));
        switch (r.nextInt(4)) {
            case 0: return hall.text();
            case 1: return hall.on() ? 1 : 0;
            default: return hall.ask();
        }
    }
}
