/** Promises 21 to 25: odds, spark, daring, late and post. */
public final class WouldBeTest {
    private static final int NONE = StrokeHall.NONE;

    public static void main(String[] args) {
        Check check = new Check("WouldBeTest");
        odds(check);
        sparks(check);
        daring(check);
        late(check);
        posts(check);
        leavesAll(check);
        check.finish();
    }

    private static String person(char name, String cell, String slow, int dares, int comes, String sort) {
        return "person " + name + " at " + cell + " slow " + slow + " dares " + dares + " comes " + comes + " walks x"
            + sort + ";";
    }

    private static void odds(Check check) {
        String two = "hall 9 2;" + person('a', "0 0", "0", 0, 3, "") + person('b', "8 0", "1", 0, 3, "") + "stroke 5;";
        check.due("both of two, 9 of 16", Check.told(two + "open 2;enough 2;").odds(), 562);
        check.due("never at once", Check.told(two + "open 1;enough 2;").odds(), 0);
        check.due("one of two, 15 of 16", Check.told(two + "open 1;enough 1;").odds(), 937);
        check.due("too few", Check.told(two + "enough 3;").odds(), 0);
        StrokeHall hall = Check.told(two + "open 2;enough 2;");
        hall.come(0);
        check.due("whoever comes now counts for nothing", hall.odds(), 562);
        check.due("who come stay", hall.hall(11), 0);
        hall.set(1, 0, 62);
        check.due("a watch too late", hall.odds(), 0);
        check.due("a guard", Check.told(two + "guard g at 0 1 sees 9 looks 2;open 2;enough 1;").odds(), 375);
        check.due("nobody", Check.told("hall 2 2;enough 1;").odds(), 0);
        check.due("none told", new StrokeHall().odds(), NONE);
        String sure = "hall 9 2;" + person('a', "0 0", "0", 0, 4, "") + person('b', "1 0", "0", 1, 4, " passer");
        check.due("sure", Check.told(sure + "enough 2;").odds(), 1000);
        check.due("a passer alone", Check.told(sure.replace("dares 0 comes 4", "dares 0 comes 0")).odds(), 0);
    }

    private static void sparks(Check check) {
        String text = "hall 9 2;" + person('a', "0 0", "0", 0, 4, "") + person('b', "1 0", "9", 1, 4, "")
            + person('c', "2 0", "9", 1, 4, " passer") + person('d', "8 0", "-1", 0, 4, "")
            + person('e', "8 1", "0", 0, 4, "") + "open 9;";
        StrokeHall hall = Check.told(text + "stroke 4;");
        check.due("spark(0)", hall.spark(0), 4);
        check.due("spark(1)", hall.spark(1), 3);
        check.due("spark(2) of a passer", hall.spark(2), NONE);
        check.due("spark(3)", hall.spark(3), 1);
        check.due("spark(4)", hall.spark(4), 2);
        check.due("spark(5)", hall.spark(5), NONE);
        check.due("spark(-1)", hall.spark(-1), NONE);
        check.due("spark(max)", hall.spark(Integer.MAX_VALUE), NONE);
        hall.come(13);
        check.due("spark(0) without b", hall.spark(0), 2);
        check.due("spark(1) away", hall.spark(1), NONE);
        check.due("the watch stays", hall.person(0, 1), 60);
        check.due("stroke 1: nothing is ahead of it", Check.told(text + "stroke 1;").spark(0), 0);
        check.due("a guard", Check.told(text + "stroke 4;guard g at 0 0 sees 1 looks 2;").spark(0), 0);
        // b opens in 40, one beside a who opened in 39, as told: 60 ahead of 99.
        StrokeHall by = Check.told("hall 9 2;" + person('a', "4 0", "0", 0, 4, "")
            + "person b at 0 0 slow 60 dares 1 comes 4 walks xxxxxxxxxxxe;"
            + "open 1;stroke 99;");
        check.due("b is beside him in 39", by.where(1, 39), 3);
        check.due("b is beside him still in 40", by.where(1, 40), 3);
        check.due("60 ahead", by.spark(0), 2);
        StrokeHall soon = Check.told("hall 9 2;" + person('a', "4 0", "0", 0, 4, "")
            + "person b at 0 0 slow 60 dares 1 comes 4 walks xxxxxxxxxxxe;"
            + "open 1;stroke 95;");
        check.due("60 ahead: b is not yet there", soon.spark(0), 1);
        check.due("stroke 62: he in 2, d in 61", Check.told(text + "stroke 62;").spark(4), 2);
    }

    private static void daring(Check check) {
        String text = "hall 9 2;" + person('a', "0 0", "0", 0, 4, "") + person('b', "1 0", "60", 0, 4, "")
            + person('c', "1 1", "60", 2, 4, " passer") + person('d', "2 0", "45", 1, 4, "")
            + person('e', "8 0", "30", 0, 4, "") + "stroke 5;open 9;";
        StrokeHall hall = Check.told(text + "enough 1;");
        check.due("it comes off: 0", hall.daring(0), 0);
        check.due("it comes off: bits", hall.daring(1), 0);
        hall = Check.told(text + "enough 3;");
        // With b at 1 he follows a, and d follows him: the least that does is b alone.
        check.due("daring(0)", hall.daring(0), 1);
        check.due("daring(1)", hall.daring(1), 2);
        check.due("daring stays", hall.person(1, 2), 0);
        hall = Check.told(text + "enough 5;");
        check.due("none are enough", hall.daring(0), NONE);
        check.due("none are enough: bits", hall.daring(1), NONE);
        hall.set(4, 2, 10);
        check.due("b and e", hall.daring(0), 2);
        check.due("b and e: bits", hall.daring(1), 18);
        hall.come(21);
        check.due("without b and d", hall.daring(1), NONE);
        hall = Check.told(text + "enough 2;");
        check.due("enough 2", hall.daring(1), 2);
        hall.come(29);
        check.due("nobody near", hall.daring(1), NONE);
        check.due("daring(-1)", hall.daring(-1), NONE);
        check.due("daring(2)", hall.daring(2), NONE);
        // Fewest goes ahead of least bits: d alone (and e behind him) is 8, b and c are 6.
        hall = Check.told("hall 9 2;" + person('a', "0 0", "0", 0, 4, "") + person('b', "0 1", "60", 0, 4, "")
            + person('c', "0 1", "50", 0, 4, "") + person('d', "1 0", "40", 0, 4, "")
            + person('e', "2 0", "30", 1, 4, "") + "stroke 5;open 4;enough 3;");
        check.due("fewest", hall.daring(0), 1);
        check.due("fewest: bits", hall.daring(1), 8);
        hall.come(7);
        check.due("without d", hall.daring(1), 6);
        // One who dares at 2 must dare at 1: a passer may.
        hall = Check.told("hall 9 2;" + person('a', "0 0", "0", 0, 4, "") + person('b', "8 0", "60", 2, 4, " passer")
            + person('c', "0 1", "60", 2, 4, " passer") + "stroke 5;open 9;enough 2;");
        check.due("a passer", hall.daring(1), 4);
    }

    private static void late(Check check) {
        String text = "hall 9 2;" + person('a', "0 0", "0", 0, 4, "") + person('b', "4 0", "3", 0, 4, "")
            + person('c', "8 0", "0", 1, 4, " passer") + "stroke 5;open 4;";
        StrokeHall hall = Check.told(text + "enough 2;");
        // b is open in 8 to 11: a may open in 11; a is open in 5 to 8.
        check.due("late(0)", hall.late(0), 66);
        check.due("late(1)", hall.late(1), 63);
        check.due("late(2) of a passer", hall.late(2), NONE);
        check.due("late(3)", hall.late(3), NONE);
        check.due("late(-1)", hall.late(-1), NONE);
        check.due("late(min)", hall.late(Integer.MIN_VALUE), NONE);
        check.due("the watch stays", hall.person(0, 1), 60);
        check.due("who come stay", hall.hall(11), 7);
        check.due("alone is enough", Check.told(text + "enough 1;").late(0), 120);
        check.due("never", Check.told(text + "enough 3;").late(0), NONE);
        hall.come(2);
        check.due("late(0) away", hall.late(0), NONE);
        check.due("late(1) alone", hall.late(1), NONE);
        // Only far ahead: the other's watch is 60 ahead.
        hall = Check.told("hall 9 2;" + person('a', "0 0", "0", 0, 4, "") + person('b', "4 0", "-60", 0, 4, "")
            + "stroke 60;open 1;enough 2;");
        check.due("two at once in the first second", hall.late(0), 1);
        hall.come(3);
        check.due("late(1)", hall.late(1), 60);
        hall = Check.told("hall 9 2;" + person('a', "0 0", "0", 0, 4, "") + person('b', "4 0", "-60", 0, 4, "")
            + "stroke 61;open 1;enough 2;");
        check.due("60 ahead: 0", hall.late(0), 0);
        // It comes off without him: that does not count.
        hall = Check.told("hall 9 2;" + person('a', "0 0", "0", 0, 4, "") + person('b', "4 0", "0", 0, 4, "")
            + person('c', "8 0", "1", 0, 4, "") + "stroke 9;open 2;enough 2;");
        check.due("late(2)", hall.late(2), 61);
    }

    private static void posts(Check check) {
        String text = "hall 5 2;wall 0 0;person a at 1 0 slow 0 dares 0 comes 4 walks e;"
            + "person b at 4 1 slow 0 dares 0 comes 4 walks x;stroke 9;";
        StrokeHall hall = Check.told(text + "guard g at 0 1 sees 1 looks 2;");
        // a is in 3 0 in 2: both are one step from 4 0 and 3 1; in 1 he is in 2 0, three steps from b.
        check.due("post(0, 0)", hall.post(0, 0), 4);
        check.due("post(0, 1)", hall.post(0, 1), 2);
        check.due("the guard stays", hall.guard(0, 0), 5);
        check.due("the alarm stays", hall.whole(0), NONE);
        check.due("post(0, 2)", hall.post(0, 2), NONE);
        check.due("post(0, -1)", hall.post(0, -1), NONE);
        check.due("post(1, 0)", hall.post(1, 0), NONE);
        check.due("post(-1, 1)", hall.post(-1, 1), NONE);
        hall.come(1);
        check.due("none: the first without a wall", hall.post(0, 0), 1);
        check.due("none: no alarm", hall.post(0, 1), NONE);
        hall.come(3);
        hall.set(0, 0, 53);
        check.due("the stroke comes first", hall.post(0, 1), NONE);
        hall.set(0, 0, 54);
        check.due("one second sooner", hall.post(0, 1), 2);
        hall = Check.told(text + "guard g at 0 1 sees 1 looks 2;guard h at 1 1 sees 1 looks 1;");
        check.due("another's alarm is as soon: the first", hall.post(0, 0), 1);
        check.due("another's alarm", hall.post(0, 1), 0);
        check.due("the other's own", hall.post(1, 0), 1);
        hall = Check.told(text + "guard g at 3 1 sees 1 looks 2;guard h at 0 1 sees 1 looks 2;");
        check.due("another's alarm is there", hall.post(1, 0), 1);
        check.due("another's alarm in 2", hall.post(1, 1), 2);
    }

    /** What would be changes nothing that is. */
    private static void leavesAll(Check check) {
        StrokeHall hall = Check.told("hall 5 2;person a at 1 0 slow 0 dares 0 comes 2 walks e;"
            + "person b at 4 1 slow 3 dares 2 comes 2 walks w;person c at 4 1 slow 9 dares 1 comes 2 walks w;"
            + "guard g at 0 1 sees 1 looks 2;stroke 3;open 4;");
        hall.come(5);
        int where = hall.where(2, 5);
        int opens = hall.does(2, 0);
        for (int k = 0; k < 5; k++) {
            switch (k) {
                case 0: hall.odds(); break;
                case 1: hall.spark(0); break;
                case 2: hall.daring(0); break;
                case 3: hall.late(2); break;
                default: hall.post(0, 0); break;
            }
            check.due("where behind " + k, hall.where(2, 5), where);
            check.due("opens behind " + k, hall.does(2, 0), opens);
            check.due("who come behind " + k, hall.hall(11), 5);
            check.due("acts behind " + k, hall.hall(12), 0);
            check.due("the image behind " + k, hall.image(), 10);
            int[] image = {60, 0, 1, 63, 2, 9, 69, 1, 9};
            for (int i = 0; i < image.length; i++) {
                check.due("octet behind " + k, hall.octet(i), image[i]);
            }
        }
    }
}
