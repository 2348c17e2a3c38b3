import java.util.ArrayDeque;
import java.util.ArrayList;
import java.util.Deque;
import java.util.List;
import java.util.Random;

/** Promises 1 to 29: whole runs of 512 calls of all kinds on one object, each answer held against the plain model's. */
public final class RunModelTest {
    private static final int CALLS = 512;
    private static final int NONE = StrokeHall.NONE;
    private static final int[] EDGES = {-1, 0, 1, 2, 3, 4, 5, 6, 7, 8, 9, 10, 11, 12, 13, 20, 32, 53, 54, 60, 61, 120, 121,
        200, 201, 511, 512, Integer.MAX_VALUE, Integer.MIN_VALUE};

    /** What one act has changed, and what undoes it. */
    private record Act(Runnable back) {
    }

    private final Check check;
    private final Random random;
    private final int number;
    private final StrokeHall hall = new StrokeHall();
    private final StringBuilder tape = new StringBuilder();
    private final Deque<Act> acts = new ArrayDeque<>();
    private List<Integer> octets = new ArrayList<>();
    private Model model = new Model();
    private Model.Day day = null;
    private boolean told = false;
    private int comers = 0;
    private long seed = 1;
    private int fault = 0;
    private int place = NONE;
    private int calls = 0;

    private RunModelTest(Check check, int number) {
        this.check = check;
        this.number = number;
        random = new Random(number);
        model.wall = new boolean[0];
    }

    public static void main(String[] args) {
        Check check = new Check("RunModelTest");
        int from = args.length > 0 ? Integer.parseInt(args[0]) : 1;
        int runs = args.length > 1 ? Integer.parseInt(args[1]) : 60;
        for (int k = 0; k < runs; k++) {
            new RunModelTest(check, from + k).run();
        }
        check.finish();
    }

    private void run() {
        while (calls < CALLS) {
            any(random.nextInt(44));
        }
    }

    private void due(String call, long got, long want) {
        calls++;
        check.due("run " + number + ", call " + calls + ": " + call, calls <= CALLS ? got : want, want);
    }

    private void due(String call, boolean got, boolean want) {
        due(call, got ? 1 : 0, want ? 1 : 0);
    }

    private int edge() {
        return random.nextInt(12) == 0 ? random.nextInt() : EDGES[random.nextInt(EDGES.length)];
    }

    /** Mostly one that there is. */
    private int one(int of) {
        return of > 0 && random.nextInt(6) > 0 ? random.nextInt(of) : edge();
    }

    private boolean has(int person) {
        return person >= 0 && person < model.people.size();
    }

    private boolean isThere(int person) {
        return has(person) && (comers >> person & 1) == 1;
    }

    private Model.Day now() {
        day = day == null ? model.day(comers) : day;
        return day;
    }

    private void any(int kind) {
        switch (kind) {
            case 0: feedAny(); break;
            case 1: end(one(tape.length() + 1)); break;
            case 2: text(); break;
            case 3: faultCalls(); break;
            case 4: case 5: hallCall(random.nextInt(15) - 1); break;
            case 6: letter(one(2), one(5), one(6)); break;
            case 7: person(one(model.people.size()), one(6)); break;
            case 8: guard(one(model.guards.size()), one(3)); break;
            case 9: case 10: door(one(model.doors.size()), one(4)); break;
            case 11: case 12: where(one(model.people.size()), one(201)); break;
            case 13: case 14: does(one(model.people.size()), one(4)); break;
            case 15: case 16: count(one(201), one(4)); break;
            case 17: case 18: whole(one(9)); break;
            case 19: case 20: case 21: case 22: sets(); break;
            case 23: case 24: close(one(model.doors.size()), random.nextBoolean()); break;
            case 25: case 26: undo(); break;
            case 27: come(random.nextInt(4) > 0 ? random.nextInt(1 << model.people.size()) : edge()); break;
            case 28: lot(); break;
            case 29: seed(random.nextBoolean() ? random.nextInt() : edge()); break;
            case 30: spark(one(model.people.size())); break;
            case 31: late(one(model.people.size())); break;
            case 32: post(one(model.guards.size()), one(2)); break;
            case 33: dear(); break;
            case 34: image(); break;
            case 35: octet(one(octets.size())); break;
            case 36: imageOn(); break;
            case 37: on(); break;
            case 38: case 39: case 40: question(); break;
            case 41: ask(null); break;
            default: hallText(); break;
        }
    }

    private void feedAny() {
        feed(edge(), edge(), edge(), edge(), edge());
    }

    private void feed(int... n) {
        boolean fits = tape.length() + 20 <= 1600;
        if (fits) {
            for (int k = 0; k < 20; k++) {
                tape.append((char) (n[k / 4] >>> 24 - 8 * (k % 4) & 255));
            }
        }
        due("feed", hall.feed(n[0], n[1], n[2], n[3], n[4]), fits ? tape.length() : NONE);
    }

    private void end(int n) {
        boolean fine = n >= 0 && n <= tape.length();
        if (fine) {
            tape.setLength(n);
        }
        due("end(" + n + ")", hall.end(n), fine);
    }

    private void putOnTape(String text) {
        end(0);
        for (int at = 0; at < text.length(); at += 20) {
            int[] n = new int[5];
            for (int k = 0; k < 20; k++) {
                n[k / 4] = n[k / 4] << 8 | (at + k < text.length() ? text.charAt(at + k) & 255 : 32);
            }
            feed(n);
        }
        end(text.length());
    }

    private void setFault(Tokens.Fault f) {
        fault = f == null ? 0 : f.kind;
        place = f == null ? NONE : f.place;
    }

    private void faultCalls() {
        due("fault(0)", hall.fault(0), fault);
        due("fault(1)", hall.fault(1), place);
        due("fault of another", hall.fault(random.nextBoolean() ? 2 : -1), NONE);
    }

    /** A text that is fine, a torn one or, now and then, what else stands on the tape. */
    private void hallText() {
        if (random.nextInt(told ? 4 : 3) > 0) {
            return;
        }
        Model other = Model.random(random);
        while (other.text.length() > 700) {
            other = Model.random(random);
        }
        if (random.nextInt(4) == 0) {
            StringBuilder torn = new StringBuilder(other.text);
            torn.deleteCharAt(random.nextInt(torn.length()));
            putOnTape(torn.toString());
            text();
            return;
        }
        putOnTape(other.text);
        int statements = other.text.replaceAll("[^;]", "").length();
        tape.setLength(0);
        setFault(null);
        take(other);
        due("text() of " + other.text, hall.text(), statements);
        for (int what = -1; what < 14; what++) {
            hallCall(what);
        }
    }

    private void take(Model other) {
        model = other;
        told = true;
        comers = (1 << model.people.size()) - 1;
        acts.clear();
        day = null;
    }

    /** What stands on the tape is no hall: one that is by chance is made none. */
    private void text() {
        try {
            PlainReader.read(tape.toString());
            end(tape.toString().lastIndexOf(';'));
            PlainReader.read(tape.toString());
        } catch (Tokens.Fault f) {
            setFault(f);
        }
        tape.setLength(0);
        due("text()", hall.text(), NONE);
        faultCalls();
    }

    private void hallCall(int what) {
        int walls = 0;
        for (boolean w : model.wall) {
            walls += w ? 1 : 0;
        }
        int closed = 0;
        for (boolean c : model.closed) {
            closed += c ? 1 : 0;
        }
        int[] all = {model.wide, model.high, walls, model.doors.size(), closed, model.people.size(), model.guards.size(),
            model.stroke, model.open, model.near, model.enough, comers, acts.size()};
        due("hall(" + what + ")", hall.hall(what), of(all, what));
    }

    private static int of(int[] all, int what) {
        return what >= 0 && what < all.length ? all[what] : NONE;
    }

    private void letter(int kind, int which, int k) {
        String name = null;
        if (kind == 0 && has(which)) {
            name = model.people.get(which).name;
        } else if (kind == 1 && which >= 0 && which < model.guards.size()) {
            name = model.guards.get(which).name;
        }
        int want = name == null || k < 0 || k > 5 ? NONE : k < name.length() ? name.charAt(k) - 'a' + 1 : 0;
        due("letter(" + kind + ", " + which + ", " + k + ")", hall.letter(kind, which, k), want);
    }

    private void person(int p, int what) {
        int want = NONE;
        if (has(p)) {
            Model.Person one = model.people.get(p);
            want = of(new int[] {one.cell, one.slow + 60, one.dares, one.comes, one.passer ? 1 : 0, one.steps.length()},
                what);
        }
        due("person(" + p + ", " + what + ")", hall.person(p, what), want);
    }

    private void guard(int g, int what) {
        int want = NONE;
        if (g >= 0 && g < model.guards.size()) {
            Model.Guard one = model.guards.get(g);
            want = of(new int[] {one.cell, one.sees, one.looks}, what);
        }
        due("guard(" + g + ", " + what + ")", hall.guard(g, what), want);
    }

    private void door(int d, int what) {
        boolean is = d >= 0 && d < model.doors.size();
        due("door(" + d + ", " + what + ")", hall.door(d, what), is ? model.door(now(), d, what) : NONE);
    }

    private void where(int p, int t) {
        boolean seen = isThere(p) && t >= 0 && t <= 200 && now().doing[t][p] != Model.OUT;
        due("where(" + p + ", " + t + ")", hall.where(p, t), seen ? now().cell[t][p] : NONE);
    }

    private void does(int p, int what) {
        int want = NONE;
        if (isThere(p)) {
            want = of(new int[] {now().opens[p], now().outs[p], now().how[p], now().outDoor[p]}, what);
        }
        due("does(" + p + ", " + what + ")", hall.does(p, what), want);
    }

    private void count(int t, int what) {
        int want = NONE;
        if (t >= 0 && t <= 200) {
            want = of(new int[] {now().many(t, Model.OPEN), now().many(t, Model.WAITS), now().many(t, Model.GOES),
                now().many(t, Model.OUT)}, what);
        }
        due("count(" + t + ", " + what + ")", hall.count(t, what), want);
    }

    private void whole(int what) {
        due("whole(" + what + ")", hall.whole(what), told ? model.whole(now(), what) : NONE);
    }

    private void act(Runnable back) {
        acts.push(new Act(back));
        if (acts.size() > 20) {
            acts.removeLast();
        }
        day = null;
    }

    private void sets() {
        int many = random.nextInt(12) == 0 ? 1 + random.nextInt(30) : 1;
        for (int k = 0; k < many; k++) {
            set(one(model.people.size()), one(3));
        }
    }

    private void set(int p, int what) {
        int most = what == 0 ? 121 : what == 1 ? 10 : model.wide * model.high;
        int n = what >= 0 && what <= 2 ? one(most) : edge();
        int want = NONE;
        if (has(p) && what >= 0 && what <= 2 && n >= 0 && n < most && (what < 2 || !model.wall[n])) {
            Model.Person one = model.people.get(p);
            int was = want = what == 0 ? one.slow + 60 : what == 1 ? one.dares : one.cell;
            act(() -> change(one, what, was));
            change(one, what, n);
        }
        due("set(" + p + ", " + what + ", " + n + ")", hall.set(p, what, n), want);
    }

    private static void change(Model.Person one, int what, int n) {
        one.slow = what == 0 ? n - 60 : one.slow;
        one.dares = what == 1 ? n : one.dares;
        one.cell = what == 2 ? n : one.cell;
    }

    private void close(int d, boolean is) {
        boolean fine = d >= 0 && d < model.doors.size() && model.closed.get(d) != is;
        if (fine) {
            List<Boolean> closed = model.closed;
            act(() -> closed.set(d, !is));
            closed.set(d, is);
        }
        due("close(" + d + ", " + is + ")", hall.close(d, is), fine);
    }

    private void undo() {
        int many = random.nextInt(8) == 0 ? 22 : 1;
        for (int k = 0; k < many; k++) {
            boolean fine = !acts.isEmpty();
            if (fine) {
                acts.pop().back().run();
                day = null;
            }
            due("undo()", hall.undo(), fine);
        }
    }

    private void come(int bits) {
        boolean fine = bits >= 0 && bits < 1 << model.people.size();
        if (fine) {
            comers = bits;
            day = null;
        }
        due("come(" + bits + ")", hall.come(bits), fine);
    }

    private void lot() {
        comers = 0;
        for (int p = 0; p < model.people.size(); p++) {
            seed = (1103515245L * seed + 12345) % (1L << 31);
            comers |= seed / 64 % 4 < model.people.get(p).comes ? 1 << p : 0;
        }
        day = null;
        due("lot()", hall.lot(), comers);
    }

    private void seed(int n) {
        seed = n >= 0 ? n : seed;
        due("seed(" + n + ")", hall.seed(n), n >= 0);
    }

    private boolean hasWatch(int p) {
        return isThere(p) && !model.people.get(p).passer;
    }

    private void spark(int p) {
        due("spark(" + p + ")", hall.spark(p), hasWatch(p) ? model.spark(comers, p) : NONE);
    }

    private void late(int p) {
        due("late(" + p + ")", hall.late(p), hasWatch(p) ? model.late(comers, p) : NONE);
    }

    private void post(int g, int what) {
        boolean is = g >= 0 && g < model.guards.size();
        due("post(" + g + ", " + what + ")", hall.post(g, what), is ? of(model.post(comers, g), what) : NONE);
    }

    /** The model tries all bits, so these are asked seldom. */
    private void dear() {
        if (random.nextInt(3) > 0) {
            return;
        }
        due("odds()", hall.odds(), told ? model.odds() : NONE);
        int bits = model.daring(comers);
        due("daring(0)", hall.daring(0), bits == NONE ? NONE : Integer.bitCount(bits));
        due("daring(1)", hall.daring(1), bits);
        due("daring of another", hall.daring(random.nextBoolean() ? 2 : -1), NONE);
    }

    private List<Integer> imageNow() {
        List<Integer> all = new ArrayList<>();
        for (Model.Person p : model.people) {
            all.addAll(List.of(p.slow + 60, p.dares, p.cell));
        }
        for (boolean closed : model.closed) {
            all.add(closed ? 1 : 0);
        }
        all.add(checkOf(all));
        return all;
    }

    private static int checkOf(List<Integer> all) {
        int check = 151;
        for (int octet : all) {
            check = (3 * check + octet) % 253;
        }
        return check;
    }

    private void image() {
        octets = imageNow();
        due("image()", hall.image(), octets.size());
    }

    private void octet(int k) {
        due("octet(" + k + ")", hall.octet(k), k >= 0 && k < octets.size() ? octets.get(k) : NONE);
    }

    /** An image of this hall or of a former one, with a byte or two that are others, and mostly with its check mended. */
    private void imageOn() {
        List<Integer> all = new ArrayList<>(random.nextInt(5) == 0 ? octets : imageNow());
        int others = random.nextInt(4);
        for (int k = 0; k < others && all.size() > 1; k++) {
            int at = random.nextInt(all.size() - 1);
            all.set(at, random.nextInt(4) == 0 ? random.nextInt(256) : random.nextInt(2));
        }
        if (all.size() > 1 && random.nextInt(4) > 0) {
            all.remove(all.size() - 1);
            all.add(checkOf(all));
        }
        if (random.nextInt(10) == 0) {
            all.add(random.nextInt(256));
        }
        StringBuilder bytes = new StringBuilder();
        for (int octet : all) {
            bytes.append((char) octet);
        }
        putOnTape(bytes.toString());
        on();
    }

    private void on() {
        boolean fine = told && isImage();
        if (fine) {
            for (int k = 0; k < model.people.size() * 3; k++) {
                change(model.people.get(k / 3), k % 3, tape.charAt(k));
            }
            for (int d = 0; d < model.doors.size(); d++) {
                model.closed.set(d, tape.charAt(3 * model.people.size() + d) == 1);
            }
            acts.clear();
            day = null;
        }
        tape.setLength(0);
        due("on()", hall.on(), fine);
        hallCall(12);
    }

    private boolean isImage() {
        int last = 3 * model.people.size() + model.doors.size();
        if (tape.length() != last + 1) {
            return false;
        }
        List<Integer> ahead = new ArrayList<>();
        for (int k = 0; k < last; k++) {
            int octet = tape.charAt(k);
            ahead.add(octet);
            int most = k >= 3 * model.people.size() ? 1 : new int[] {120, 9, model.wide * model.high - 1}[k % 3];
            boolean inWall = k < 3 * model.people.size() && k % 3 == 2 && octet <= most && model.wall[octet];
            if (octet > most || inWall) {
                return false;
            }
        }
        return tape.charAt(last) == checkOf(ahead);
    }

    private void question() {
        RandomQuestion asked = new RandomQuestion(random);
        while (asked.text().length() > 300) {
            asked = new RandomQuestion(random);
        }
        boolean torn = random.nextInt(4) == 0;
        putOnTape(torn ? asked.text().substring(1 + random.nextInt(3)) : asked.text());
        ask(torn ? null : asked);
    }

    /** Without a question that is known, what stands on the tape is none: one that is by chance is made none. */
    private void ask(RandomQuestion asked) {
        long want = StrokeHall.NOTHING;
        if (asked == null) {
            putOnTape(tape.substring(0, Math.min(100, tape.length())) + "?");
        }
        if (told) {
            try {
                QuestionGrammar.read(tape.toString());
                setFault(null);
                want = asked.answer(now(), comers);
            } catch (Tokens.Fault f) {
                setFault(f);
            }
        }
        tape.setLength(0);
        due("ask()", hall.ask(), want);
        faultCalls();
    }
}
