/** Promises 2 and 3: feed and end. */
public final class TapeTest {
    public static void main(String[] args) {
        Check check = new Check("TapeTest");
        feeds(check);
        ends(check);
        fills(check);
        goes(check);
        check.finish();
    }

    /** Bytes can be seen as an image's octets alone: of a hall without people and with a check byte above 127. */
    private static void feeds(Check check) {
        StrokeHall hall = new StrokeHall();
        check.due("feed", hall.feed(0x68616C6C, 0x20322033, 0x3B202020, 0x20202020, 0x2020200A), 20);
        check.due("text() of one statement", hall.text(), 1);
        check.due("wide", hall.hall(0), 2);
        check.due("high", hall.hall(1), 3);
        check.due("feed of a high byte", hall.feed(0x97000000, -1, -1, -1, -1), 20);
        check.due("end(1)", hall.end(1), true);
        check.due("on()", hall.on(), true);
        hall.feed(0x96000000, 0, 0, 0, 0);
        hall.end(1);
        check.due("on() of another byte", hall.on(), false);
    }

    private static void ends(Check check) {
        StrokeHall hall = new StrokeHall();
        check.due("end(-1)", hall.end(-1), false);
        check.due("end(1) of none", hall.end(1), false);
        check.due("end(0) of none", hall.end(0), true);
        hall.feed(0x68616C6C, 0x20322033, 0x3B682020, 0x20202020, 0x20202020);
        check.due("end(21)", hall.end(21), false);
        check.due("end(max)", hall.end(Integer.MAX_VALUE), false);
        check.due("end(min)", hall.end(Integer.MIN_VALUE), false);
        check.due("end(20)", hall.end(20), true);
        check.due("end(9)", hall.end(9), true);
        check.due("end(10)", hall.end(10), false);
        check.due("text() of the first nine", hall.text(), 1);
        hall.feed(0, 0, 0, 0, 0);
        hall.end(3);
        check.due("feed behind three", hall.feed(0, 0, 0, 0, 0), 23);
    }

    private static void fills(Check check) {
        StrokeHall hall = new StrokeHall();
        int blanks = 0x20202020;
        for (int k = 1; k <= 80; k++) {
            check.due("feed " + k, hall.feed(blanks, blanks, blanks, blanks, blanks), 20 * k);
        }
        check.due("feed 81", hall.feed(blanks, blanks, blanks, blanks, blanks), StrokeHall.NONE);
        check.due("end(1581)", hall.end(1581), true);
        check.due("feed behind 1581", hall.feed(0, 0, 0, 0, 0), StrokeHall.NONE);
        check.due("end(1581) still", hall.end(1582), false);
        check.due("end(1580)", hall.end(1580), true);
        check.due("feed behind 1580", hall.feed(blanks, blanks, blanks, blanks, blanks), 1600);
        check.due("text()", hall.text(), StrokeHall.NONE);
        check.due("fault(0)", hall.fault(0), 1);
        check.due("fault(1)", hall.fault(1), 1600);
    }

    private static void goes(Check check) {
        StrokeHall hall = new StrokeHall();
        Check.tape(hall, "often all");
        hall.ask();
        check.due("the tape goes with ask() without a hall", hall.end(1), false);
        Check.tape(hall, "x");
        hall.text();
        check.due("the tape goes with a text of faults", hall.end(1), false);
        Check.tape(hall, "x");
        hall.on();
        check.due("the tape goes with on()", hall.end(1), false);
        Check.tape(hall, "hall 2 2;");
        hall.text();
        check.due("the tape goes with a text", hall.end(1), false);
        Check.tape(hall, "total 1");
        hall.ask();
        check.due("the tape goes with a question", hall.end(1), false);
        Check.tape(hall, "x");
        hall.ask();
        check.due("the tape goes with a question of faults", hall.end(1), false);
    }
}
