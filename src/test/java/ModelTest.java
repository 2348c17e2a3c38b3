import java.util.ArrayDeque;
import java.util.Deque;
import java.util.Random;

/** Random halls, acts and questions, each answer held against the plain model's. */
public final class ModelTest {
    private final Check check = new Check("ModelTest");
    private final Random random;
    private StrokeHall hall;
    private Model model;
    private Model.Day day;
    private int comers;
    private String run;
    private final Deque<Runnable> acts = new ArrayDeque<>();

    private ModelTest(int seed) {
        random = new Random(seed);
    }

    public static void main(String[] args) {
        int from = args.length > 0 ? Integer.parseInt(args[0]) : 1;
        ModelTest test = new ModelTest(from);
        int halls = args.length > 1 ? Integer.parseInt(args[1]) : 150;
        for (int k = 0; k < halls; k++) {
            test.oneHall(k);
        }
        test.check.finish();
    }

    private void due(String call, long got, long want) {
        check.due(run + ": " + call, got, want);
    }

    /** Calls are few an object, so each kind of question has a fresh one with the same acts. */
    private void oneHall(int number) {
        model = Model.random(random);
        run = number + ": " + model.text;
        hall = Check.told(model.text);
        acts.clear();
        comers = (1 << model.people.size()) - 1;
        for (int k = 0; k < 4; k++) {
            int many = random.nextInt(4);
            for (int i = 0; i < many; i++) {
                act();
            }
            day = model.day(comers);
            StrokeHall first = hall;
            hall = copy();
            people();
            hall = copy();
            counts();
            hall = copy();
            wouldBe();
            hall = copy();
            for (int i = 0; i < 12; i++) {
                question();
            }
            hall = first;
        }
    }

    /** Another object in the same state, by an image. */
    private StrokeHall copy() {
        StrokeHall other = Check.told(model.text);
        int bytes = hall.image();
        due("image()", bytes, 3 * model.people.size() + model.doors.size() + 1);
        StringBuilder image = new StringBuilder();
        int check = 151;
        for (int k = 0; k < bytes; k++) {
            int octet = hall.octet(k);
            due("octet(" + k + ")", octet, k == bytes - 1 ? check : imageOctet(k));
            image.append((char) octet);
            check = (3 * check + octet) % 253;
        }
        due("octet behind", hall.octet(bytes), Model.NONE);
        Check.tape(other, image.toString());
        due("on()", other.on() ? 1 : 0, 1);
        due("come", other.come(comers) ? 1 : 0, 1);
        return other;
    }

    private int imageOctet(int k) {
        int person = k / 3;
        if (person >= model.people.size()) {
            return model.closed.get(k - 3 * model.people.size()) ? 1 : 0;
        }
        Model.Person p = model.people.get(person);
        return k % 3 == 0 ? p.slow + 60 : k % 3 == 1 ? p.dares : p.cell;
    }

    private void act() {
        int what = random.nextInt(7);
        if (what == 5) {
            comers = random.nextInt(1 << model.people.size());
            due("come(" + comers + ")", hall.come(comers) ? 1 : 0, 1);
        } else if (what == 6) {
            due("undo()", hall.undo() ? 1 : 0, acts.isEmpty() ? 0 : 1);
            if (!acts.isEmpty()) {
                acts.pop().run();
            }
        } else if (what >= 3 && model.doors.size() > 0) {
            int door = random.nextInt(model.doors.size());
            boolean was = model.closed.get(door);
            due("close", hall.close(door, !was) ? 1 : 0, 1);
            due("close again", hall.close(door, !was) ? 1 : 0, 0);
            model.closed.set(door, !was);
            acts.push(() -> model.closed.set(door, was));
        } else if (what < 3 && model.people.size() > 0) {
            set(what, model.people.get(random.nextInt(model.people.size())));
        }
        due("hall(12)", hall.hall(12), acts.size());
    }

    private void set(int what, Model.Person p) {
        int who = model.people.indexOf(p);
        if (what == 0) {
            int n = random.nextInt(121);
            int was = p.slow;
            due("set watch", hall.set(who, 0, n), was + 60);
            p.slow = n - 60;
            acts.push(() -> p.slow = was);
        } else if (what == 1) {
            int n = random.nextInt(10);
            int was = p.dares;
            due("set daring", hall.set(who, 1, n), was);
            p.dares = n;
            acts.push(() -> p.dares = was);
        } else {
            int n = random.nextInt(model.wide * model.high);
            int was = p.cell;
            due("set cell", hall.set(who, 2, n), model.wall[n] ? Model.NONE : was);
            if (!model.wall[n]) {
                p.cell = n;
                acts.push(() -> p.cell = was);
            }
        }
    }

    private boolean isThere(int p) {
        return (comers >> p & 1) == 1;
    }

    private void people() {
        for (int p = 0; p < model.people.size(); p++) {
            due("does(" + p + ", 0)", hall.does(p, 0), isThere(p) ? day.opens[p] : Model.NONE);
            due("does(" + p + ", 1)", hall.does(p, 1), isThere(p) ? day.outs[p] : Model.NONE);
            due("does(" + p + ", 2)", hall.does(p, 2), isThere(p) ? day.how[p] : Model.NONE);
            due("does(" + p + ", 3)", hall.does(p, 3), isThere(p) ? day.outDoor[p] : Model.NONE);
            for (int k = 0; k < 40; k++) {
                int t = random.nextInt(201);
                boolean seen = isThere(p) && day.doing[t][p] != Model.OUT;
                due("where(" + p + ", " + t + ")", hall.where(p, t), seen ? day.cell[t][p] : Model.NONE);
            }
        }
        for (int d = 0; d < model.doors.size(); d++) {
            for (int what = 0; what < 4; what++) {
                due("door(" + d + ", " + what + ")", hall.door(d, what), model.door(day, d, what));
            }
        }
    }

    private void counts() {
        for (int k = 0; k < 80; k++) {
            int t = random.nextInt(201);
            int[] kinds = {Model.OPEN, Model.WAITS, Model.GOES, Model.OUT};
            int what = random.nextInt(4);
            due("count(" + t + ", " + what + ")", hall.count(t, what), day.many(t, kinds[what]));
        }
        for (int what = 0; what < 10; what++) {
            due("whole(" + what + ")", hall.whole(what), model.whole(day, what));
        }
    }

    private void wouldBe() {
        if (random.nextInt(5) == 0) {
            due("odds()", hall.odds(), model.odds());
        }
        for (int p = 0; p < model.people.size(); p++) {
            boolean fine = isThere(p) && !model.people.get(p).passer;
            if (random.nextInt(3) == 0) {
                due("spark(" + p + ")", hall.spark(p), fine ? model.spark(comers, p) : Model.NONE);
            }
            if (random.nextInt(6) == 0) {
                due("late(" + p + ")", hall.late(p), fine ? model.late(comers, p) : Model.NONE);
            }
        }
        if (random.nextInt(4) == 0) {
            int bits = model.daring(comers);
            due("daring(1)", hall.daring(1), bits);
            due("daring(0)", hall.daring(0), bits == Model.NONE ? bits : Integer.bitCount(bits));
        }
        if (model.guards.size() > 0 && random.nextInt(2) == 0) {
            post(random.nextInt(model.guards.size()));
        }
        due("hall(11)", hall.hall(11), comers);
        due("whole(0)", hall.whole(0), day.alarm);
        due("whole(8)", hall.whole(8), day.openAhead(model.stroke));
    }

    private void post(int g) {
        int[] best = model.post(comers, g);
        due("post(" + g + ", 0)", hall.post(g, 0), best[0]);
        due("post(" + g + ", 1)", hall.post(g, 1), best[1]);
    }

    private void question() {
        RandomQuestion asked = new RandomQuestion(random);
        for (int k = 0; k < 100 && asked.text().length() > 1600; k++) {
            asked = new RandomQuestion(random);
        }
        Check.tape(hall, asked.text());
        due("ask() of " + asked.text(), hall.ask(), asked.answer(day, comers));
        due("fault(0) of " + asked.text(), hall.fault(0), 0);
    }
}
