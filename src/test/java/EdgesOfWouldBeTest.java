/** Term III and promises 18 to 25: each sentence that names a bound of what would be, on it and beyond it. */
public final class EdgesOfWouldBeTest {
    private static final int NONE = StrokeHall.NONE;
    private static final Check CHECK = new Check("EdgesOfWouldBeTest");

    public static void main(String[] args) {
        odds();
        oddsOfAll();
        lots();
        draws();
        seeds();
        sparks();
        sparksOfNone();
        fewest();
        leastBits();
        daringOfNone();
        late();
        lateOfNone();
        posts();
        postsOfNone();
        alarmThen();
        CHECK.finish();
    }

    private static String person(String name, String cell, String slow, int dares, int comes, String walks) {
        return "person " + name + " at " + cell + " slow " + slow + " dares " + dares + " comes " + comes + " walks "
            + walks + ";";
    }

    private static String people(int many, int comes) {
        StringBuilder text = new StringBuilder();
        for (int k = 0; k < many; k++) {
            text.append(person("a" + (char) ('a' + k), "0 0", "0", 0, comes, "x"));
        }
        return text.toString();
    }

    private static int oddsOf(int many, int comes, int enough) {
        return CHECK.fine("hall 2 2;enough " + enough + ";" + people(many, comes)).odds();
    }

    private static void odds() {
        CHECK.says("each comes by comes of 4, by himself: how likely it is that it COMES OFF: exactly, in "
            + "thousandths (floor).");
        CHECK.due("comes 0", oddsOf(1, 0, 1), 0);
        CHECK.due("comes 1", oddsOf(1, 1, 1), 250);
        CHECK.due("comes 2", oddsOf(1, 2, 1), 500);
        CHECK.due("comes 3", oddsOf(1, 3, 1), 750);
        CHECK.due("comes 4", oddsOf(1, 4, 1), 1000);
        CHECK.due("one of three, 37 of 64", oddsOf(3, 1, 1), 578);
        CHECK.due("two of three, 10 of 64", oddsOf(3, 1, 2), 156);
        CHECK.due("three of three, 1 of 64", oddsOf(3, 1, 3), 15);
        CHECK.due("four of four, 81 of 256", oddsOf(4, 3, 4), 316);
        CHECK.due("five of five, 243 of 1024", oddsOf(5, 3, 5), 237);
        CHECK.due("nine of nine, 1 of 512", oddsOf(9, 2, 9), 1);
        CHECK.due("nine of nine, 1 of 262144", oddsOf(9, 1, 9), 0);
        CHECK.due("one of nine, all but 1 of 262144", oddsOf(9, 3, 1), 999);
        CHECK.due("nine of nine, surely", oddsOf(9, 4, 9), 1000);
        CHECK.due("nobody", oddsOf(0, 0, 1), 0);
        CHECK.due("nine, none of them", oddsOf(9, 0, 1), 0);
        CHECK.due("fewer than enough", oddsOf(8, 4, 9), 0);
        CHECK.due("a mix, 3 of 16", CHECK.fine("hall 2 2;enough 2;" + person("a", "0 0", "0", 0, 1, "x")
            + person("b", "0 0", "0", 0, 3, "x")).odds(), 187);
    }

    private static void oddsOfAll() {
        CHECK.says("ODDS (whoever comes now counts for nothing); NONE without a hall.");
        CHECK.due("without a hall", new StrokeHall().odds(), NONE);
        StrokeHall hall = CHECK.fine("hall 9 2;enough 2;stroke 3;open 5;" + person("a", "0 0", "0", 0, 3, "x")
            + person("b", "1 0", "60", 1, 2, "x passer") + person("c", "8 0", "9", 0, 1, "x"));
        // a and b, whoever c: 6 of 16. b without a never opens, c alone is one.
        for (int bits = 0; bits < 8; bits++) {
            hall.come(bits);
            CHECK.due("ODDS while " + bits + " come", hall.odds(), 375);
            CHECK.due("they come as before", hall.hall(11), bits);
        }
        hall.set(1, 1, 0);
        CHECK.due("as all is now", hall.odds(), 0);
        hall.set(2, 0, 64);
        CHECK.due("a and c, 3 of 16", hall.odds(), 187);
        // A guard who looks at two: whoever comes with a is seen with him in 0, and it comes off without anyone else.
        StrokeHall seen = CHECK.fine("hall 9 2;enough 1;stroke 3;guard g at 0 0 sees 1 looks 2;"
            + person("a", "0 0", "0", 0, 3, "x") + person("b", "1 0", "60", 0, 1, "x passer"));
        CHECK.due("a without b, 9 of 16", seen.odds(), 562);
    }

    private static void lots() {
        CHECK.says("A MORNING BY LOT: for each of the PEOPLE, by numbers, a DRAW of 4, below comes: he is there.");
        int[] draws = new int[9];
        long x = 1;
        for (int k = 0; k < 9; k++) {
            x = (1103515245L * x + 12345L) % (1L << 31);
            draws[k] = (int) (x / 64 % 4);
        }
        for (int comes = 0; comes <= 4; comes++) {
            int due = 0;
            for (int k = 0; k < 9; k++) {
                due |= draws[k] < comes ? 1 << k : 0;
            }
            StrokeHall hall = CHECK.fine("hall 2 2;" + people(9, comes));
            CHECK.due("lot of comes " + comes, hall.lot(), due);
            CHECK.due("who come, comes " + comes, hall.hall(11), due);
            CHECK.due("all or nobody", comes == 0 && due != 0 || comes == 4 && due != 511, false);
        }
        StrokeHall one = CHECK.fine("hall 2 2;" + people(1, 2));
        CHECK.due("the first draw is 2: not below 2", one.lot(), 0);
        one = CHECK.fine("hall 2 2;" + people(1, 3));
        CHECK.due("the first draw is 2: below 3", one.lot(), 1);
        CHECK.says("A MORNING BY LOT, from now on (no ACT): who come (bits).");
        StrokeHall hall = CHECK.fine("hall 2 2;" + people(2, 4));
        hall.come(0);
        CHECK.due("from now on", hall.lot(), 3);
        CHECK.due("all wait", hall.count(0, 1), 2);
        CHECK.due("no ACT", hall.hall(12), 0);
        CHECK.due("nothing to undo", hall.undo(), false);
        CHECK.due("nobody at all", new StrokeHall().lot(), 0);
    }

    private static void draws() {
        CHECK.says("A DRAW of m: x (the seed) becomes (1103515245 x + 12345) mod 2 to the 31; floor(x / 64) mod m.");
        for (long seed : new long[] {0, 1, 2, 63, 64, 65535, 65536, 1073741823L, 1073741824L, 2147483646L,
            2147483647L}) {
            StrokeHall hall = CHECK.fine("hall 2 2;" + person("a", "0 0", "0", 0, 1, "x")
                + person("b", "0 0", "0", 0, 2, "x") + person("c", "0 0", "0", 0, 3, "x"));
            CHECK.due("seed(" + seed + ")", hall.seed((int) seed), true);
            long x = seed;
            for (int k = 0; k < 30; k++) {
                int due = 0;
                for (int p = 0; p < 3; p++) {
                    x = (1103515245L * x + 12345L) % (1L << 31);
                    due |= x / 64 % 4 <= p ? 1 << p : 0;
                }
                CHECK.due("lot " + k + " behind the seed " + seed, hall.lot(), due);
            }
        }
    }

    private static void seeds() {
        CHECK.says("The seed: true; false when it is below 0. (It is 1 at first.)");
        StrokeHall hall = CHECK.fine("hall 2 2;" + people(9, 2));
        StrokeHall fresh = CHECK.fine("hall 2 2;" + people(9, 2));
        CHECK.due("seed(1)", hall.seed(1), true);
        for (int k = 0; k < 5; k++) {
            CHECK.due("it is 1 at first: lot " + k, fresh.lot(), hall.lot());
        }
        hall.seed(0);
        fresh.seed(0);
        CHECK.due("seed(-1)", hall.seed(-1), false);
        CHECK.due("seed(min)", hall.seed(Integer.MIN_VALUE), false);
        CHECK.due("a refused seed does nothing", hall.lot(), fresh.lot());
        CHECK.due("seed(0)", hall.seed(0), true);
        CHECK.due("seed(max)", hall.seed(Integer.MAX_VALUE), true);
        CHECK.due("no ACT", hall.hall(12), 0);
    }

    private static void sparks() {
        CHECK.says("SPARK of one: had he a watch 60 ahead: how many OPEN ahead of the stroke.");
        String alone = person("a", "0 0", "60", 0, 4, "x");
        // 60 ahead he opens in 1 (stroke 1 to 61), in 2 (62), ..: ahead of the stroke but for stroke 1.
        int[][] due = {{1, 0}, {2, 1}, {60, 1}, {61, 1}, {62, 1}, {99, 1}};
        for (int[] n : due) {
            CHECK.due("stroke " + n[0], CHECK.fine("hall 9 2;stroke " + n[0] + ";" + alone).spark(0), n[1]);
        }
        // With stroke 99 in 39, not sooner and not later: a guard who sees b in 38 is ahead of him, one in 39 is not.
        String seen = "hall 9 2;stroke 99;guard g at 8 0 sees 1 looks 1;" + person("a", "0 1", "60", 0, 4, "x");
        CHECK.due("seen in 38", CHECK.fine(seen + person("b", "3 0", "60", 0, 4, "xexxxxxxxxxx passer")).spark(0), 0);
        CHECK.due("seen in 39", CHECK.fine(seen + person("b", "3 0", "60", 0, 4, "xxexxxxxxxxx passer")).spark(0), 1);
        // Not in the stroke itself: b follows in 2, c in 3; a stroke 3 has two ahead of it.
        String row = person("a", "0 0", "60", 0, 4, "x") + person("b", "1 0", "60", 1, 4, "x passer")
            + person("c", "2 0", "60", 1, 4, "x") + "open 9;";
        CHECK.due("ahead of 2", CHECK.fine("hall 9 2;stroke 2;" + row).spark(0), 1);
        CHECK.due("ahead of 3", CHECK.fine("hall 9 2;stroke 3;" + row).spark(0), 2);
        CHECK.due("ahead of 4", CHECK.fine("hall 9 2;stroke 4;" + row).spark(0), 3);
        // Others who are ahead by themselves count, too.
        CHECK.due("others", CHECK.fine("hall 9 2;stroke 9;" + alone + person("b", "8 0", "-1", 0, 4, "x")
            + person("c", "8 1", "0", 0, 4, "x")).spark(0), 2);
    }

    private static void sparksOfNone() {
        CHECK.says("SPARK, of those who come; NONE when there is none such, he does not come, or is a passer.");
        StrokeHall hall = CHECK.fine("hall 9 2;stroke 5;open 9;" + person("a", "0 0", "0", 0, 4, "x")
            + person("b", "1 0", "60", 1, 4, "x") + person("c", "2 0", "0", 1, 4, "x passer"));
        CHECK.due("spark(0)", hall.spark(0), 3);
        CHECK.due("spark(2), a passer", hall.spark(2), NONE);
        CHECK.due("spark(3)", hall.spark(3), NONE);
        CHECK.due("spark(-1)", hall.spark(-1), NONE);
        CHECK.due("spark(31)", hall.spark(31), NONE);
        CHECK.due("spark(32)", hall.spark(32), NONE);
        hall.come(5);
        CHECK.due("without b", hall.spark(0), 1);
        CHECK.due("b does not come", hall.spark(1), NONE);
        hall.come(6);
        CHECK.due("a does not come", hall.spark(0), NONE);
        CHECK.due("b and c", hall.spark(1), 2);
        CHECK.due("his watch stays", hall.person(1, 1), 120);
    }

    /** Two who open far apart in 5 and 50, four passers who would follow one of them, if they dared. */
    private static StrokeHall twoWays(String rest) {
        return CHECK.fine("hall 9 2;stroke 5;open 9;" + person("p", "1 0", "0", 0, 4, "x passer")
            + person("q", "7 1", "0", 0, 4, "x passer") + person("r", "6 1", "0", 0, 4, "x passer")
            + person("s", "2 0", "0", 0, 4, "x passer") + person("v", "0 0", "0", 0, 4, "x")
            + person("w", "8 1", "45", 0, 4, "x") + rest);
    }

    private static void daring(String call, StrokeHall hall, int many, int bits) {
        CHECK.due(call + ": how many", hall.daring(0), many);
        CHECK.due(call + ": bits", hall.daring(1), bits);
    }

    private static void fewest() {
        CHECK.says("DARING: the fewest PEOPLE who must dare at 1 (others as they do) so that it COMES OFF,");
        daring("one is enough", twoWays("enough 1;"), 0, 0);
        daring("p or q", twoWays("enough 2;"), 1, 1);
        daring("p and s, or q and r", twoWays("enough 3;"), 2, 6);
        daring("four at once", twoWays("enough 4;"), NONE, NONE);
        // The last one alone is fewer than the first two, though his bits are more.
        StrokeHall last = CHECK.fine("hall 9 2;stroke 5;open 9;enough 3;" + person("a", "1 0", "0", 0, 4, "x passer")
            + person("b", "2 0", "0", 0, 4, "x passer") + person("v", "0 0", "0", 0, 4, "x")
            + person("w", "8 1", "45", 0, 4, "x") + person("y", "6 1", "0", 1, 4, "x passer")
            + person("z", "7 1", "0", 0, 4, "x passer"));
        daring("z, and y behind him", last, 1, 32);
        // One who dares at 2 sees one alone: others as they do, but he must dare at 1.
        StrokeHall two = CHECK.fine("hall 9 2;stroke 5;open 9;enough 3;near 2;" + person("v", "0 0", "0", 0, 4, "x")
            + person("a", "1 0", "0", 2, 4, "x passer") + person("b", "1 1", "0", 2, 4, "x passer"));
        daring("a, so that b sees two", two, 1, 2);
        CHECK.due("he dares as before", two.person(1, 2), 2);
        // All but one must, the first of the text among them.
        StrokeHall all = CHECK.fine("hall 9 2;stroke 5;open 9;enough 9;" + person("a", "7 0", "0", 0, 4, "x passer")
            + person("b", "6 0", "0", 0, 4, "x passer") + person("c", "5 0", "0", 0, 4, "x passer")
            + person("d", "4 0", "0", 0, 4, "x passer") + person("e", "3 0", "0", 0, 4, "x passer")
            + person("f", "2 0", "0", 0, 4, "x passer") + person("g", "1 0", "0", 0, 4, "x passer")
            + person("h", "0 0", "0", 0, 4, "x passer") + person("i", "8 0", "0", 0, 4, "x"));
        daring("all who follow", all, 8, 255);
        // To dare at 1 may be too soon for one who dares at more: it is no help where none is asked.
        StrokeHall asked = CHECK.fine("hall 9 2;stroke 5;open 3;enough 2;" + person("v", "0 0", "0", 0, 4, "x")
            + person("a", "1 0", "3", 0, 4, "x"));
        daring("a would follow in 6", asked, 1, 2);
        asked.set(1, 0, 62);
        daring("he opens in 7 by his watch", asked, 0, 0);
    }

    private static void leastBits() {
        CHECK.says("of like ones the least bits (0 when it does).");
        StrokeHall hall = twoWays("enough 3;");
        daring("6 is less than 9", hall, 2, 6);
        hall.come(63 - 2);
        daring("without q", hall, 2, 9);
        hall.come(63 - 32);
        daring("without w", hall, 2, 9);
        hall.come(63 - 16);
        daring("without v", hall, 2, 6);
        hall.come(63);
        hall.set(3, 1, 1);
        daring("s dares: p", hall, 1, 1);
        hall.set(2, 1, 1);
        daring("r dares, too: p is less than q", hall, 1, 1);
        hall.set(0, 1, 1);
        daring("it does", hall, 0, 0);
    }

    private static void daringOfNone() {
        CHECK.says("NONE when none are enough, or for others.");
        StrokeHall hall = twoWays("enough 2;");
        CHECK.due("daring(-1)", hall.daring(-1), NONE);
        CHECK.due("daring(2)", hall.daring(2), NONE);
        CHECK.due("daring(max)", hall.daring(Integer.MAX_VALUE), NONE);
        CHECK.due("daring(min)", hall.daring(Integer.MIN_VALUE), NONE);
        daring("one", hall, 1, 1);
        CHECK.says("DARING, of those who come:");
        hall.come(16);
        daring("v alone", hall, NONE, NONE);
        hall.come(17);
        daring("v and p", hall, 1, 1);
        hall.come(18);
        daring("v and q, far off", hall, NONE, NONE);
        hall.come(15);
        daring("passers alone", hall, NONE, NONE);
        hall.come(0);
        daring("nobody", hall, NONE, NONE);
        daring("without a hall", new StrokeHall(), NONE, NONE);
        StrokeHall seen = twoWays("enough 1;guard g at 0 0 sees 1 looks 1;");
        daring("behind an ALARM", seen, NONE, NONE);
    }

    private static void late() {
        CHECK.says("LATE: the most that one's watch may be behind (60 at most) so that he is OPEN in some SECOND "
            + "in which it has COME OFF (enough are OPEN), others as they are.");
        String a = person("a", "0 0", "0", 0, 4, "x");
        CHECK.due("60 at most", CHECK.fine("hall 9 2;stroke 9;enough 1;" + a).late(0), 120);
        // b is open in 9 .. 12: a may open in 12, and may have opened in 6.
        String b = person("b", "8 0", "0", 0, 4, "x");
        StrokeHall hall = CHECK.fine("hall 9 2;stroke 9;open 4;enough 2;" + a + b);
        CHECK.due("in the last SECOND of b's", hall.late(0), 63);
        CHECK.due("in the last SECOND of a's", hall.late(1), 63);
        hall.set(1, 0, 0);
        CHECK.due("b in 1 .. 4", hall.late(0), 55);
        hall.set(1, 0, 120);
        CHECK.due("b in 69 .. 72: 60 at most", hall.late(0), 120);
        CHECK.due("b himself must be sooner", hall.late(1), 63);
        // With open 1 both must open in one second.
        hall = CHECK.fine("hall 9 2;stroke 61;open 1;enough 2;" + a + person("b", "8 0", "-60", 0, 4, "x"));
        CHECK.due("0: 60 ahead", hall.late(0), 0);
        hall = CHECK.fine("hall 9 2;stroke 60;open 1;enough 2;" + a + person("b", "8 0", "-60", 0, 4, "x"));
        CHECK.due("1: 60 and 59 ahead are the first second", hall.late(0), 1);
        hall = CHECK.fine("hall 9 2;stroke 62;open 1;enough 2;" + a + person("b", "8 0", "-60", 0, 4, "x"));
        CHECK.due("0: both in 2", hall.late(0), 0);
        // It comes off without him, and he is open at another time: that is not enough.
        hall = CHECK.fine("hall 9 2;stroke 9;open 2;enough 2;" + a + b + person("c", "4 0", "60", 0, 4, "x"));
        CHECK.due("c with a and b", hall.late(2), 61);
        // He may open by sight: then it is all the same how late his watch is.
        hall = CHECK.fine("hall 9 2;stroke 9;open 2;enough 2;" + a + person("c", "1 0", "0", 1, 4, "x"));
        CHECK.due("c follows a", hall.late(1), 120);
        CHECK.due("c opens by his watch in 9, to 10", hall.late(0), 61);
        // A guard sees him in 7: he may open in 7, and not in 8.
        hall = CHECK.fine("hall 9 2;stroke 5;enough 1;guard g at 8 0 sees 1 looks 1;"
            + person("a", "0 0", "0", 0, 4, "e"));
        CHECK.due("ahead of the ALARM", hall.late(0), 62);
    }

    private static void lateOfNone() {
        CHECK.says("LATE and 60 (0: 60 ahead); NONE when he is never so, there is none such, he does not come, or "
            + "is a passer.");
        StrokeHall hall = CHECK.fine("hall 9 2;stroke 9;open 4;enough 2;" + person("a", "0 0", "0", 0, 4, "x")
            + person("b", "8 0", "0", 0, 4, "x") + person("c", "1 0", "0", 1, 4, "x passer"));
        CHECK.due("a with c behind him", hall.late(0), 120);
        CHECK.due("a passer", hall.late(2), NONE);
        CHECK.due("late(3)", hall.late(3), NONE);
        CHECK.due("late(-1)", hall.late(-1), NONE);
        CHECK.due("late(32)", hall.late(32), NONE);
        hall.come(1);
        CHECK.due("alone he is never so", hall.late(0), NONE);
        CHECK.due("b does not come", hall.late(1), NONE);
        hall.come(6);
        CHECK.due("a does not come", hall.late(0), NONE);
        CHECK.due("b, with a passer far off", hall.late(1), NONE);
        CHECK.due("his watch stays", hall.person(1, 1), 60);
        hall = CHECK.fine("hall 9 2;stroke 62;open 1;enough 2;" + person("a", "0 0", "0", 0, 4, "x")
            + person("b", "8 0", "-60", 0, 4, "x"));
        CHECK.due("0: 60 ahead", hall.late(0), 0);
        CHECK.due("without a hall", new StrokeHall().late(0), NONE);
    }

    private static void post(String call, StrokeHall hall, int guard, int cell, int alarm) {
        CHECK.due(call + ": the CELL", hall.post(guard, 0), cell);
        CHECK.due(call + ": the ALARM then", hall.post(guard, 1), alarm);
    }

    private static void posts() {
        CHECK.says("BEST POST of a GUARD: the CELL without wall in which the ALARM would be soonest; of like ones "
            + "the first. (An ALARM sooner than none.)");
        String g = "guard g at 4 1 sees 1 looks 1;";
        post("the first CELL of all", CHECK.fine("hall 9 2;" + g + person("a", "0 0", "0", 0, 4, "x")), 0, 0, 0);
        post("the first beside", CHECK.fine("hall 9 2;" + g + person("a", "8 1", "0", 0, 4, "x")), 0, 8, 0);
        post("the last CELL of all", CHECK.fine("hall 9 6;wall 8 4;wall 7 5;" + g
            + person("a", "8 5", "0", 0, 4, "x")), 0, 53, 0);
        post("the first is a wall", CHECK.fine("hall 9 2;wall 0 0;" + g + person("a", "1 0", "0", 0, 4, "x")), 0, 1, 0);
        post("a DOOR's is as good", CHECK.fine("hall 9 2;door 0 0;" + g + person("a", "1 0", "0", 0, 4, "x")), 0, 0, 0);
        // Two at once: a and b are two cells off in 2, c and d in 1.
        String two = "guard g at 4 1 sees 1 looks 2;stroke 60;";
        StrokeHall meets = CHECK.fine("hall 9 2;" + two + person("a", "0 0", "0", 0, 4, "x")
            + person("b", "4 0", "0", 0, 4, "w") + person("c", "8 0", "0", 0, 4, "x")
            + person("d", "6 1", "0", 0, 4, "e"));
        post("the soonest, not the first", meets, 0, 7, 1);
        meets.come(3);
        post("the first of like ones", meets, 0, 1, 2);
        meets.come(1);
        post("none: the first CELL without wall", meets, 0, 0, NONE);
        StrokeHall walled = CHECK.fine("hall 9 2;wall 0 0;wall 1 0;" + two + person("a", "2 0", "0", 0, 4, "x"));
        post("none: the first without wall is 2", walled, 0, 2, NONE);
        // An ALARM that is late is sooner than none, though its cell is behind.
        StrokeHall late = CHECK.fine("hall 9 2;guard g at 0 0 sees 1 looks 2;stroke 60;"
            + person("a", "8 1", "0", 0, 4, "x passer") + person("b", "0 0", "0", 0, 4, "xxxxxxe passer"));
        post("in 49 b is in 7 0", late, 0, 8, 49);
    }

    private static void postsOfNone() {
        CHECK.says("BEST POST of a GUARD: the CELL (what 0), the ALARM then (1; NONE without). NONE when there is "
            + "none such, or for others.");
        StrokeHall hall = CHECK.fine("hall 9 2;guard g at 4 1 sees 1 looks 1;" + person("a", "3 0", "0", 0, 4, "x"));
        post("post(0)", hall, 0, 2, 0);
        CHECK.due("post(0, 2)", hall.post(0, 2), NONE);
        CHECK.due("post(0, -1)", hall.post(0, -1), NONE);
        CHECK.due("post(0, max)", hall.post(0, Integer.MAX_VALUE), NONE);
        post("post(1)", hall, 1, NONE, NONE);
        post("post(-1)", hall, -1, NONE, NONE);
        post("post(max)", hall, Integer.MAX_VALUE, NONE, NONE);
        post("without a hall", new StrokeHall(), 0, NONE, NONE);
        CHECK.due("the GUARD stays", hall.guard(0, 0), 13);
        CHECK.due("no ALARM where he is", hall.whole(0), NONE);
    }

    private static void alarmThen() {
        CHECK.says("the ALARM then (1; NONE without).");
        // a is two cells off c in 6, so that the cell between sees both; b, far off, opens with the stroke.
        String text = "hall 9 4;open 1;guard g at 0 3 sees 1 looks 2;" + person("a", "0 0", "60", 0, 4, "e passer")
            + person("c", "8 0", "60", 0, 4, "x passer") + person("b", "4 3", "0", 0, 4, "x");
        int[][] due = {{1, NONE}, {5, NONE}, {6, NONE}, {7, 6}, {8, 6}, {99, 6}};
        for (int[] n : due) {
            post("stroke " + n[0], CHECK.fine(text + "stroke " + n[0] + ";"), 0, n[1] == NONE ? 0 : 7, n[1]);
        }
        // Another's ALARM counts, too: where his own is no sooner, the first CELL is as good.
        StrokeHall other = CHECK.fine("hall 9 2;guard g at 0 1 sees 1 looks 1;guard h at 8 1 sees 1 looks 1;"
            + person("a", "0 0", "0", 0, 4, "e"));
        post("g beside a", other, 0, 0, 0);
        post("h: g sees a in 0", other, 1, 0, 0);
        StrokeHall far = CHECK.fine("hall 9 2;wall 0 1;guard g at 8 1 sees 1 looks 1;guard h at 4 1 sees 1 looks 1;"
            + person("a", "2 0", "0", 0, 4, "e"));
        post("h sees a in 2, g beside him in 0", far, 0, 1, 0);
        CHECK.due("the ALARM as all is", far.whole(0), 2);
        CHECK.due("the GUARD as all is", far.whole(1), 1);
    }
}
