import java.lang.reflect.Constructor;
import java.lang.reflect.Field;
import java.lang.reflect.Method;
import java.lang.reflect.Modifier;
import java.util.TreeSet;

/** The public face, and promise 1: a new object. */
public final class FaceTest {
    private static final String FACE = "ask()long close(int,boolean)boolean come(int)boolean count(int,int)int "
        + "daring(int)int does(int,int)int door(int,int)int end(int)boolean fault(int)int feed(int,int,int,int,int)int "
        + "guard(int,int)int hall(int)int image()int late(int)int letter(int,int,int)int lot()int octet(int)int "
        + "odds()int on()boolean person(int,int)int post(int,int)int seed(int)boolean set(int,int,int)int "
        + "spark(int)int text()int undo()boolean where(int,int)int whole(int)int";

    public static void main(String[] args) {
        Check check = new Check("FaceTest");
        face(check);
        newObject(check);
        nobodyAtAll(check);
        check.finish();
    }

    private static void face(Check check) {
        TreeSet<String> found = new TreeSet<>();
        TreeSet<String> hidden = new TreeSet<>();
        for (Method m : StrokeHall.class.getDeclaredMethods()) {
            StringBuilder text = new StringBuilder(m.getName()).append('(');
            for (int k = 0; k < m.getParameterCount(); k++) {
                text.append(k > 0 ? "," : "").append(m.getParameterTypes()[k].getSimpleName());
            }
            text.append(')').append(m.getReturnType().getSimpleName());
            if (Modifier.isPublic(m.getModifiers())) {
                found.add(text.toString());
            } else if (!m.isSynthetic()) {
                check.due("private " + text, Modifier.isPrivate(m.getModifiers()), true);
                hidden.add(m.getName());
            }
        }
        check.due("the public methods are " + found, String.join(" ", found).equals(FACE), true);
        for (Method m : StrokeHall.class.getDeclaredMethods()) {
            boolean both = Modifier.isPublic(m.getModifiers()) && hidden.contains(m.getName());
            check.due("a private method bears the name " + m.getName(), both, false);
        }
        for (Field f : StrokeHall.class.getDeclaredFields()) {
            boolean told = f.getName().equals("NONE") || f.getName().equals("NOTHING");
            check.due("public " + f.getName(), Modifier.isPublic(f.getModifiers()), told);
            check.due("told or private " + f.getName(), told || Modifier.isPrivate(f.getModifiers()), true);
        }
        for (Constructor<?> c : StrokeHall.class.getDeclaredConstructors()) {
            check.due("constructor", Modifier.isPublic(c.getModifiers()) && c.getParameterCount() == 0, true);
        }
        check.due("final", Modifier.isFinal(StrokeHall.class.getModifiers()), true);
        check.due("NONE", StrokeHall.NONE, -1);
        check.due("NOTHING", StrokeHall.NOTHING, -1000000000000000L);
    }

    private static void newObject(Check check) {
        StrokeHall hall = new StrokeHall();
        int[] due = {0, 0, 0, 0, 0, 0, 0, 60, 20, 1, 3, 0, 0};
        for (int what = -1; what < 15; what++) {
            boolean there = what >= 0 && what < due.length;
            check.due("hall(" + what + ")", hall.hall(what), there ? due[what] : StrokeHall.NONE);
        }
        check.due("fault(0)", hall.fault(0), 0);
        check.due("fault(1)", hall.fault(1), StrokeHall.NONE);
        check.due("fault(2)", hall.fault(2), StrokeHall.NONE);
        check.due("octet(0)", hall.octet(0), StrokeHall.NONE);
        check.due("end(0)", hall.end(0), true);
        check.due("end(1)", hall.end(1), false);
        for (int what = 0; what < 4; what++) {
            check.due("count(0, " + what + ")", hall.count(0, what), 0);
            check.due("count(200, " + what + ")", hall.count(200, what), 0);
        }
        for (int what = 0; what < 10; what++) {
            check.due("whole(" + what + ")", hall.whole(what), StrokeHall.NONE);
        }
    }

    private static void nobodyAtAll(Check check) {
        StrokeHall hall = new StrokeHall();
        check.due("letter(0, 0, 0)", hall.letter(0, 0, 0), StrokeHall.NONE);
        check.due("letter(1, 0, 0)", hall.letter(1, 0, 0), StrokeHall.NONE);
        for (int what = 0; what < 6; what++) {
            check.due("person(0, " + what + ")", hall.person(0, what), StrokeHall.NONE);
            check.due("guard(0, " + what + ")", hall.guard(0, what), StrokeHall.NONE);
            check.due("door(0, " + what + ")", hall.door(0, what), StrokeHall.NONE);
            check.due("does(0, " + what + ")", hall.does(0, what), StrokeHall.NONE);
            check.due("set(0, " + what + ", 0)", hall.set(0, what, 0), StrokeHall.NONE);
            check.due("post(0, " + what + ")", hall.post(0, what), StrokeHall.NONE);
            check.due("daring(" + what + ")", hall.daring(what), StrokeHall.NONE);
        }
        check.due("where(0, 0)", hall.where(0, 0), StrokeHall.NONE);
        check.due("close(0, true)", hall.close(0, true), false);
        check.due("close(0, false)", hall.close(0, false), false);
        check.due("undo()", hall.undo(), false);
        check.due("come(0)", hall.come(0), true);
        check.due("come(1)", hall.come(1), false);
        check.due("come(-1)", hall.come(-1), false);
        check.due("lot()", hall.lot(), 0);
        check.due("odds()", hall.odds(), StrokeHall.NONE);
        check.due("spark(0)", hall.spark(0), StrokeHall.NONE);
        check.due("late(0)", hall.late(0), StrokeHall.NONE);
        check.due("image()", hall.image(), 1);
        check.due("octet(0)", hall.octet(0), 151);
        Check.tape(hall, "\u0097");
        check.due("on()", hall.on(), false);
    }
}
