/** Promises 11 to 14: where, does, count and whole. */
public final class MorningTest {
    private static final int NONE = StrokeHall.NONE;

    public static void main(String[] args) {
        Check check = new Check("MorningTest");
        walks(check);
        watches(check);
        sight(check);
        goes(check);
        alarms(check);
        counts(check);
        comesOff(check);
        wrong(check);
        check.finish();
    }

    private static void cells(Check check, StrokeHall hall, int person, int from, int... cells) {
        for (int k = 0; k < cells.length; k++) {
            check.due("where(" + person + ", " + (from + k) + ")", hall.where(person, from + k), cells[k]);
        }
    }

    private static void row(Check check, StrokeHall hall, int person, int opens, int outs, int how, int door) {
        int[] due = {opens, outs, how, door, NONE};
        for (int what = 0; what < due.length; what++) {
            check.due("does(" + person + ", " + what + ")", hall.does(person, what), due[what]);
        }
    }

    /** A 3 by 3 hall with a wall in its midst: letters are used up by steps that can't be made, too. */
    private static void walks(Check check) {
        StrokeHall hall = Check.told("hall 3 3;wall 1 1;person a at 0 0 slow 60 dares 0 comes 4 walks nesw;"
            + "person b at 1 0 slow 60 dares 0 comes 4 walks sxeswn;person c at 0 0 slow 60 dares 0 comes 4 walks w;"
            + "stroke 99;");
        cells(check, hall, 0, 0, 0, 0, 1, 1, 0, 0, 1, 1, 0);
        cells(check, hall, 1, 0, 1, 1, 1, 2, 5, 5, 2, 5);
        cells(check, hall, 2, 0, 0, 0, 0);
        check.due("where in the last second", hall.where(0, 200), 1);
        check.due("nobody is in another's way", hall.where(0, 158), hall.where(2, 158) + 1);
    }

    private static void watches(Check check) {
        String text = "hall 5 2;person a at 0 0 slow 3 dares 0 comes 4 walks e;"
            + "person b at 4 1 slow -60 dares 0 comes 4 walks w;person c at 0 1 slow -4 dares 0 comes 4 walks e;"
            + "person d at 4 0 slow 0 dares 0 comes 4 walks x passer;stroke 5;open 2;enough 1;";
        StrokeHall hall = Check.told(text);
        row(check, hall, 0, 8, NONE, 1, NONE);
        row(check, hall, 1, 1, NONE, 1, NONE);
        row(check, hall, 2, 1, NONE, 1, NONE);
        row(check, hall, 3, NONE, NONE, 0, NONE);
        cells(check, hall, 0, 0, 0, 1, 2, 3, 4, 4, 4, 4, 4, 4);
        cells(check, hall, 1, 0, 9, 9, 9, 9);
        cells(check, hall, 2, 0, 5, 5, 5, 5);
    }

    /** b follows a from two steps off; c wants two; d never dares; e, a passer, follows behind. */
    private static void sight(Check check) {
        String text = "hall 9 2;person a at 0 0 slow 0 dares 0 comes 4 walks x;"
            + "person b at 2 0 slow 60 dares 1 comes 4 walks x;person c at 1 1 slow 60 dares 2 comes 4 walks x;"
            + "person d at 0 0 slow 60 dares 0 comes 4 walks x;person e at 4 0 slow 60 dares 1 comes 4 walks x passer;"
            + "stroke 3;open 9;enough 3;";
        StrokeHall hall = Check.told(text + "near 2;");
        row(check, hall, 0, 3, NONE, 1, NONE);
        row(check, hall, 1, 4, NONE, 2, NONE);
        row(check, hall, 2, 5, NONE, 2, NONE);
        row(check, hall, 3, 63, NONE, 1, NONE);
        row(check, hall, 4, 5, NONE, 2, NONE);
        hall = Check.told(text + "near 1;");
        row(check, hall, 1, 63, NONE, 1, NONE);
        row(check, hall, 2, 63, NONE, 1, NONE);
        // b walks by: next to a in second 4, seen when it is the one ahead, and from where he stood then.
        hall = Check.told("hall 9 2;person a at 0 0 slow 0 dares 0 comes 4 walks x;"
            + "person b at 5 0 slow 60 dares 1 comes 4 walks w;stroke 3;open 9;");
        row(check, hall, 1, 5, NONE, 2, NONE);
        cells(check, hall, 1, 3, 2, 1, 1, 1);
        // Who opens is open for one second alone, and is seen in the second behind it.
        hall = Check.told("hall 9 2;person a at 0 0 slow 0 dares 0 comes 4 walks x;"
            + "person b at 5 0 slow 60 dares 1 comes 4 walks w;stroke 3;open 1;");
        row(check, hall, 1, 63, NONE, 1, NONE);
        // Who opens stands where he was in the second ahead: a in 2 0, near c, and not near b.
        hall = Check.told("hall 9 2;person a at 0 0 slow 0 dares 0 comes 4 walks e;"
            + "person b at 4 0 slow 60 dares 1 comes 4 walks x;person c at 1 0 slow 60 dares 1 comes 4 walks x;"
            + "stroke 3;open 9;");
        row(check, hall, 1, 63, NONE, 1, NONE);
        row(check, hall, 2, 4, NONE, 2, NONE);
        // Who could open by both in a second opens by his watch.
        hall = Check.told("hall 9 2;person a at 0 0 slow 0 dares 0 comes 4 walks x;"
            + "person b at 1 0 slow 1 dares 1 comes 4 walks x;stroke 3;open 5;");
        row(check, hall, 1, 4, NONE, 1, NONE);
    }

    private static void goes(Check check) {
        // Walls: 1 1 and 2 1 of a 4 by 3 hall; doors 3 0 and 0 2. From 1 0 both are two and three steps off.
        String text = "hall 4 3;wall 1 1;wall 2 1;door 3 0;door 0 2;";
        StrokeHall hall = Check.told(text + "person a at 1 0 slow 0 dares 0 comes 4 walks x;"
            + "person b at 0 2 slow 0 dares 0 comes 4 walks x;person c at 1 2 slow 0 dares 0 comes 4 walks x;"
            + "person d at 2 2 slow 0 dares 0 comes 4 walks x;stroke 1;open 2;enough 1;");
        cells(check, hall, 0, 0, 1, 1, 1, 2, 3, NONE, NONE);
        row(check, hall, 0, 1, 5, 1, 0);
        cells(check, hall, 1, 0, 8, 8, 8, NONE);
        row(check, hall, 1, 1, 3, 1, 1);
        row(check, hall, 2, 1, 4, 1, 1);
        cells(check, hall, 3, 2, 10, 9, 8, NONE);
        check.due("door(0, 2)", hall.door(0, 2), 1);
        check.due("door(0, 3)", hall.door(0, 3), 5);
        check.due("door(1, 2)", hall.door(1, 2), 3);
        check.due("door(1, 3)", hall.door(1, 3), 5);
        hall.close(1, true);
        cells(check, hall, 1, 2, 8, 4, 0, 1, 2, 3, NONE);
        check.due("door(1, 2) closed", hall.door(1, 2), 0);
        check.due("door(1, 3) closed", hall.door(1, 3), NONE);
        hall.close(0, true);
        cells(check, hall, 0, 2, 1, 1, 1);
        row(check, hall, 0, 1, NONE, 1, NONE);
        // Two ways as short: n ahead of e, e ahead of s, s ahead of w.
        hall = Check.told("hall 3 3;door 2 0;person a at 0 2 slow 0 dares 0 comes 4 walks x;stroke 1;open 1;");
        cells(check, hall, 0, 1, 6, 3, 0, 1, 2, NONE);
        hall = Check.told("hall 3 3;door 2 2;person a at 0 0 slow 0 dares 0 comes 4 walks x;stroke 1;open 1;");
        cells(check, hall, 0, 1, 0, 1, 2, 5, 8, NONE);
        hall = Check.told("hall 3 3;door 0 2;person a at 2 0 slow 0 dares 0 comes 4 walks x;stroke 1;open 1;");
        cells(check, hall, 0, 1, 2, 5, 8, 7, 6, NONE);
        // Who is walled in stays, and goes all the while.
        hall = Check.told("hall 2 2;wall 1 0;wall 0 1;door 1 1;person a at 0 0 slow 0 dares 0 comes 4 walks x;"
            + "stroke 1;open 1;");
        cells(check, hall, 0, 198, 0, 0, 0);
        check.due("goes", hall.count(200, 2), 1);
        row(check, hall, 0, 1, NONE, 1, NONE);
    }

    private static void alarms(Check check) {
        String text = "hall 9 2;person a at 0 0 slow 0 dares 0 comes 4 walks e;"
            + "person b at 0 1 slow 9 dares 1 comes 4 walks e passer;guard g at 8 0 sees 2 looks 3;"
            + "guard h at 6 0 sees 2 looks 2;guard i at 6 1 sees 1 looks 1;door 0 0;";
        StrokeHall hall = Check.told(text + "stroke 6;open 2;");
        // In 5 a is in 5 0 and b in 5 1: h sees both, i b: h is ahead of i. In 6 a would open.
        check.due("alarm", hall.whole(0), 5);
        check.due("guard", hall.whole(1), 1);
        hall = Check.told(text.replace("looks 2", "looks 3") + "stroke 6;open 2;");
        check.due("alarm of the last", hall.whole(0), 5);
        check.due("the last guard", hall.whole(1), 2);
        hall = Check.told(text.replace("guard i at 6 1 sees 1 looks 1;", "") + "stroke 6;open 2;");
        check.due("alarm of two", hall.whole(0), 5);
        check.due("guard of two", hall.whole(1), 1);
        row(check, hall, 0, NONE, NONE, 0, NONE);
        check.due("all wait", hall.count(200, 1), 2);
        hall = Check.told(text.replace("guard i at 6 1 sees 1 looks 1;", "") + "stroke 5;open 2;");
        check.due("opened in it", hall.whole(0), NONE);
        check.due("no guard", hall.whole(1), NONE);
        row(check, hall, 0, 5, 11, 1, 0);
        hall = Check.told("hall 9 2;person a at 0 0 slow 0 dares 0 comes 4 walks e;guard g at 0 0 sees 1 looks 1;");
        check.due("alarm in 0", hall.whole(0), 0);
        hall.come(0);
        check.due("nobody, no alarm", hall.whole(0), NONE);
        hall = Check.told("hall 9 2;person a at 0 0 slow 0 dares 1 comes 4 walks x passer;"
            + "person b at 0 0 slow 60 dares 1 comes 4 walks e passer;guard g at 8 1 sees 1 looks 1;stroke 1;");
        check.due("passers alone", hall.whole(0), 8);
        check.due("the guard of passers", hall.whole(1), 0);
    }

    private static void counts(Check check) {
        StrokeHall hall = Check.told("hall 3 2;door 2 0;person a at 0 0 slow 0 dares 0 comes 4 walks x;"
            + "person b at 2 0 slow 0 dares 0 comes 4 walks x;person c at 0 1 slow 0 dares 0 comes 4 walks x passer;"
            + "person d at 0 0 slow 0 dares 3 comes 4 walks x passer;stroke 4;open 3;");
        int[][] due = {{0, 4, 0, 0}, {0, 4, 0, 0}, {0, 4, 0, 0}, {0, 4, 0, 0}, {2, 2, 0, 0}, {2, 2, 0, 0},
            {2, 2, 0, 0}, {0, 2, 1, 1}, {0, 2, 1, 1}, {0, 2, 0, 2}, {0, 2, 0, 2}};
        for (int t = 0; t < due.length; t++) {
            for (int what = 0; what < 4; what++) {
                check.due("count(" + t + ", " + what + ")", hall.count(t, what), due[t][what]);
            }
        }
        hall.come(13);
        check.due("who does not come", hall.count(10, 3), 1);
        check.due("who does not come either", hall.count(10, 1), 2);
    }

    private static void comesOff(Check check) {
        String text = "hall 9 2;person a at 0 0 slow -3 dares 0 comes 4 walks x;"
            + "person b at 1 0 slow 60 dares 1 comes 4 walks x passer;person c at 8 0 slow 0 dares 0 comes 4 walks x;"
            + "person d at 7 0 slow 20 dares 1 comes 4 walks x;door 7 1;stroke 5;open 4;";
        StrokeHall hall = Check.told(text + "enough 3;");
        // a opens in 2 (to 5), b in 3 (to 6), c in 5 (to 8), d in 6 (to 9).
        int[] due = {NONE, NONE, 5, 3, 1, 5, 1, 14, 2, NONE};
        for (int what = 0; what < due.length; what++) {
            check.due("whole(" + what + ")", hall.whole(what), due[what]);
        }
        hall = Check.told(text + "enough 2;");
        check.due("enough 2", hall.whole(5), 3);
        hall = Check.told(text + "enough 4;");
        check.due("enough 4 comes off", hall.whole(4), 0);
        check.due("enough 4", hall.whole(5), NONE);
        check.due("peak", hall.whole(2), 5);
        hall.come(0);
        int[] none = {NONE, NONE, 0, 0, 0, NONE, 0, NONE, 0};
        for (int what = 0; what < none.length; what++) {
            check.due("whole(" + what + ") of nobody", hall.whole(what), none[what]);
        }
    }

    private static void wrong(Check check) {
        StrokeHall hall = Check.told("hall 3 2;person a at 0 0 slow 0 dares 0 comes 4 walks x;"
            + "person b at 0 0 slow 0 dares 0 comes 4 walks x;");
        int[][] where = {{0, -1}, {0, 201}, {-1, 0}, {2, 0}, {Integer.MAX_VALUE, 0}, {0, Integer.MIN_VALUE}};
        for (int[] n : where) {
            check.due("where(" + n[0] + ", " + n[1] + ")", hall.where(n[0], n[1]), NONE);
        }
        int[][] does = {{0, -1}, {0, 4}, {-1, 0}, {2, 0}, {Integer.MIN_VALUE, 0}, {0, Integer.MAX_VALUE}};
        for (int[] n : does) {
            check.due("does(" + n[0] + ", " + n[1] + ")", hall.does(n[0], n[1]), NONE);
        }
        int[][] counts = {{-1, 0}, {201, 0}, {0, -1}, {0, 4}, {Integer.MAX_VALUE, 0}, {0, Integer.MAX_VALUE}};
        for (int[] n : counts) {
            check.due("count(" + n[0] + ", " + n[1] + ")", hall.count(n[0], n[1]), NONE);
        }
        check.due("whole(-1)", hall.whole(-1), NONE);
        check.due("whole(9)", hall.whole(9), NONE);
        hall.come(1);
        check.due("where of one who does not come", hall.where(1, 0), NONE);
        for (int what = 0; what < 4; what++) {
            check.due("does of one who does not come", hall.does(1, what), NONE);
        }
        check.due("where of one who comes", hall.where(0, 0), 0);
    }
}
