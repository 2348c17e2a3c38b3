/** Promises 6 to 10: what the text told of the hall, of people, guards and doors. */
public final class ToldTest {
    private static final String TEXT = "hall 4 3;wall 1 0;wall 1 0;wall 3 2;door 0 0;door 3 0;"
        + "person zoe at 0 1 slow 7 dares 3 comes 1 walks nesw;"
        + "person abcdef at 2 2 slow -60 dares 0 comes 4 walks x passer;"
        + "guard gus at 0 2 sees 9 looks 20;guard h at 2 2 sees 1 looks 1;stroke 12;open 3;stroke 13;near 4;enough 2;";

    public static void main(String[] args) {
        Check check = new Check("ToldTest");
        hall(check);
        letters(check);
        people(check);
        guards(check);
        doors(check);
        check.finish();
    }

    private static void hall(Check check) {
        StrokeHall hall = Check.told(TEXT);
        int[] due = {4, 3, 2, 2, 0, 2, 2, 13, 3, 4, 2, 3, 0};
        for (int what = 0; what < due.length; what++) {
            check.due("hall(" + what + ")", hall.hall(what), due[what]);
        }
        check.due("hall(13)", hall.hall(13), StrokeHall.NONE);
        check.due("hall(-1)", hall.hall(-1), StrokeHall.NONE);
        check.due("hall(min)", hall.hall(Integer.MIN_VALUE), StrokeHall.NONE);
        hall.close(1, true);
        check.due("hall(4)", hall.hall(4), 1);
        check.due("hall(12)", hall.hall(12), 1);
        hall.come(2);
        check.due("hall(11)", hall.hall(11), 2);
        check.due("walls in the corners", Check.told("hall 2 2;wall 0 0;wall 1 1;").hall(2), 2);
        check.due("walls all over", Check.told("hall 2 2;wall 0 0;wall 1 1;wall 1 0;wall 0 1;").hall(2), 4);
    }

    private static void letters(Check check) {
        StrokeHall hall = Check.told(TEXT);
        int[] zoe = {26, 15, 5, 0, 0, 0};
        int[] gus = {7, 21, 19, 0, 0, 0};
        for (int k = 0; k < 6; k++) {
            check.due("letter of zoe " + k, hall.letter(0, 0, k), zoe[k]);
            check.due("letter of abcdef " + k, hall.letter(0, 1, k), k + 1);
            check.due("letter of gus " + k, hall.letter(1, 0, k), gus[k]);
            check.due("letter of h " + k, hall.letter(1, 1, k), k == 0 ? 8 : 0);
        }
        int[][] none = {{0, 0, -1}, {0, 0, 6}, {0, 2, 0}, {0, -1, 0}, {1, 2, 0}, {1, -1, 0}, {2, 0, 0}, {-1, 0, 0},
            {0, Integer.MAX_VALUE, 0}, {0, 0, Integer.MAX_VALUE}, {1, Integer.MIN_VALUE, 0}};
        for (int[] n : none) {
            check.due("letter of none", hall.letter(n[0], n[1], n[2]), StrokeHall.NONE);
        }
    }

    private static void rows(Check check, String call, int[][] due, Asked asked) {
        for (int one = -1; one <= due.length; one++) {
            for (int what = -1; what < 8; what++) {
                boolean there = one >= 0 && one < due.length && what >= 0 && what < due[one].length;
                check.due(call + "(" + one + ", " + what + ")", asked.of(one, what),
                    there ? due[one][what] : StrokeHall.NONE);
            }
        }
        check.due(call + "(max, 0)", asked.of(Integer.MAX_VALUE, 0), StrokeHall.NONE);
        check.due(call + "(0, min)", asked.of(0, Integer.MIN_VALUE), StrokeHall.NONE);
    }

    private static void people(Check check) {
        StrokeHall hall = Check.told(TEXT);
        rows(check, "person", new int[][] {{4, 67, 3, 1, 0, 4}, {10, 0, 0, 4, 1, 1}}, hall::person);
        hall.set(0, 0, 120);
        hall.set(0, 1, 9);
        hall.set(0, 2, 6);
        rows(check, "person", new int[][] {{6, 120, 9, 1, 0, 4}, {10, 0, 0, 4, 1, 1}}, hall::person);
    }

    private static void guards(Check check) {
        StrokeHall hall = Check.told(TEXT);
        rows(check, "guard", new int[][] {{8, 9, 20}, {10, 1, 1}}, hall::guard);
    }

    /** The second guard sees abcdef from the first on, so nobody goes out; without abcdef zoe does. */
    private static void doors(Check check) {
        StrokeHall hall = Check.told(TEXT);
        int none = StrokeHall.NONE;
        rows(check, "door", new int[][] {{0, 0, 0, none}, {3, 0, 0, none}}, hall::door);
        hall.come(1);
        // She opens at 20 (13 and 7), walks n e s w: behind 19 steps she is where she was behind 3 (n, wall, s).
        check.due("opens", hall.does(0, 0), 20);
        check.due("stands", hall.where(0, 20), 4);
        rows(check, "door", new int[][] {{0, 0, 1, 24}, {3, 0, 0, none}}, hall::door);
        hall.close(0, true);
        rows(check, "door", new int[][] {{0, 1, 0, none}, {3, 0, 1, 27}}, hall::door);
    }

    private interface Asked {
        int of(int one, int what);
    }
}
