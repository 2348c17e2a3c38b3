/** Promises 27 to 29: image, octet and on. */
public final class ImageTest {
    private static final String TEXT = "hall 4 3;wall 3 2;door 0 0;door 3 0;"
        + "person a at 0 1 slow 7 dares 3 comes 1 walks x;person b at 2 2 slow -60 dares 0 comes 2 walks x passer;"
        + "stroke 5;open 2;enough 1;";

    public static void main(String[] args) {
        Check check = new Check("ImageTest");
        writes(check);
        stays(check);
        takes(check);
        refuses(check);
        check.finish();
    }

    private static int[] withCheck(int... octets) {
        int[] image = java.util.Arrays.copyOf(octets, octets.length + 1);
        int c = 151;
        for (int octet : octets) {
            c = (3 * c + octet) % 253;
        }
        image[octets.length] = c;
        return image;
    }

    private static void image(Check check, StrokeHall hall, int... octets) {
        int[] due = withCheck(octets);
        check.due("image()", hall.image(), due.length);
        octets(check, hall, due);
    }

    private static void octets(Check check, StrokeHall hall, int... due) {
        for (int k = 0; k < due.length; k++) {
            check.due("octet(" + k + ")", hall.octet(k), due[k]);
        }
        check.due("octet(-1)", hall.octet(-1), StrokeHall.NONE);
        check.due("octet behind", hall.octet(due.length), StrokeHall.NONE);
        check.due("octet(max)", hall.octet(Integer.MAX_VALUE), StrokeHall.NONE);
        check.due("octet(min)", hall.octet(Integer.MIN_VALUE), StrokeHall.NONE);
    }

    private static void writes(Check check) {
        StrokeHall hall = new StrokeHall();
        octets(check, hall);
        image(check, hall);
        check.due("the check of nothing", hall.octet(0), 151);
        hall = Check.told(TEXT);
        octets(check, hall);
        image(check, hall, 67, 3, 4, 0, 0, 10, 0, 0);
        hall.set(0, 0, 120);
        hall.set(1, 1, 9);
        hall.set(1, 2, 0);
        hall.close(1, true);
        image(check, hall, 120, 3, 4, 0, 9, 0, 0, 1);
        hall.undo();
        image(check, hall, 120, 3, 4, 0, 9, 0, 0, 0);
        image(check, Check.told("hall 2 2;"));
        image(check, Check.told("hall 2 2;door 1 1;"), 0);
        StringBuilder full = new StringBuilder("hall 9 6;");
        int[] due = new int[33];
        for (int k = 0; k < 9; k++) {
            full.append("person ").append((char) ('a' + k)).append(" at ").append(k)
                .append(" 5 slow 60 dares 9 comes 4 walks x;");
            due[3 * k] = 120;
            due[3 * k + 1] = 9;
            due[3 * k + 2] = 45 + k;
        }
        for (int k = 0; k < 6; k++) {
            full.append("door ").append(k).append(" 0;");
        }
        image(check, Check.told(full.toString()), due);
    }

    private static void stays(Check check) {
        StrokeHall hall = Check.told(TEXT);
        hall.image();
        int[] due = withCheck(67, 3, 4, 0, 0, 10, 0, 0);
        hall.set(0, 0, 1);
        octets(check, hall, due);
        Check.tape(hall, "hall 2 2;");
        hall.text();
        octets(check, hall, due);
        check.due("image() of the new hall", hall.image(), 1);
        octets(check, hall, 151);
    }

    private static String text(int... octets) {
        StringBuilder text = new StringBuilder();
        for (int octet : octets) {
            text.append((char) octet);
        }
        return text.toString();
    }

    private static void takes(Check check) {
        StrokeHall hall = Check.told(TEXT);
        hall.set(0, 0, 99);
        hall.come(2);
        hall.image();
        int before = hall.octet(0);
        Check.tape(hall, text(withCheck(120, 9, 0, 0, 0, 3, 1, 0)));
        check.due("on()", hall.on(), true);
        check.due("watch", hall.person(0, 1), 120);
        check.due("daring", hall.person(0, 2), 9);
        check.due("cell", hall.person(0, 0), 0);
        check.due("cell of the second", hall.person(1, 0), 3);
        check.due("where", hall.where(1, 0), 3);
        check.due("closed", hall.door(0, 1), 1);
        check.due("not closed", hall.door(1, 1), 0);
        check.due("nothing can be undone", hall.hall(12), 0);
        check.due("undo()", hall.undo(), false);
        check.due("who come stay", hall.hall(11), 2);
        check.due("the latest image stays", hall.octet(0), before);
        check.due("the tape goes", hall.end(1), false);
        image(check, hall, 120, 9, 0, 0, 0, 3, 1, 0);
        Check.tape(hall, text(withCheck(67, 3, 4, 0, 0, 10, 0, 0)));
        check.due("on() again", hall.on(), true);
        image(check, hall, 67, 3, 4, 0, 0, 10, 0, 0);
        check.due("fault(0) stays", hall.fault(0), 0);
        check.due("where behind on()", hall.where(1, 0), 10);
    }

    private static void refuses(Check check) {
        StrokeHall hall = Check.told(TEXT);
        hall.set(0, 0, 99);
        int[] right = withCheck(120, 9, 0, 0, 0, 3, 1, 0);
        int[] wrongCheck = right.clone();
        wrongCheck[8] = (wrongCheck[8] + 1) % 253;
        int[][] none = {{}, wrongCheck, withCheck(121, 9, 0, 0, 0, 3, 1, 0), withCheck(120, 10, 0, 0, 0, 3, 1, 0),
            withCheck(120, 9, 11, 0, 0, 3, 1, 0), withCheck(120, 9, 12, 0, 0, 3, 1, 0),
            withCheck(120, 9, 0, 0, 0, 255, 1, 0), withCheck(120, 9, 0, 255, 0, 3, 1, 0),
            withCheck(120, 9, 0, 0, 0, 3, 2, 0), withCheck(120, 9, 0, 0, 0, 3, 0, 255),
            withCheck(120, 9, 0, 0, 0, 3, 1), withCheck(120, 9, 0, 0, 0, 3, 1, 0, 0), withCheck()};
        for (int[] octets : none) {
            Check.tape(hall, text(octets));
            check.due("on() of " + java.util.Arrays.toString(octets), hall.on(), false);
            check.due("the tape goes", hall.end(1), false);
            check.due("acts stay", hall.hall(12), 1);
        }
        Check.tape(hall, text(right) + " ");
        check.due("on() with a byte behind", hall.on(), false);
        image(check, hall, 99, 3, 4, 0, 0, 10, 0, 0);
        StrokeHall empty = new StrokeHall();
        Check.tape(empty, text(151));
        check.due("on() without a hall", empty.on(), false);
    }
}
