import java.util.Arrays;

/** Promises 1 to 17 and 27 to 29: each sentence that names a bound of a call, on it and beyond it. */
public final class EdgesOfPromisesTest {
    private static final int NONE = StrokeHall.NONE;
    private static final int MAX = Integer.MAX_VALUE;
    private static final int MIN = Integer.MIN_VALUE;
    private static final int BLANKS = 0x20202020;
    private static final Check CHECK = new Check("EdgesOfPromisesTest");
    private static final String TEXT = "hall 4 3;wall 3 2;wall 0 2;door 0 0;door 3 0;"
        + "person ann at 0 1 slow 7 dares 3 comes 1 walks nesw;"
        + "person abcdef at 2 2 slow -60 dares 0 comes 4 walks x passer;"
        + "person c at 1 1 slow 0 dares 1 comes 3 walks x;guard gus at 3 1 sees 1 looks 20;"
        + "guard h at 2 2 sees 9 looks 4;"
        + "stroke 5;open 2;near 2;enough 1;";

    public static void main(String[] args) {
        newObject();
        feed();
        feedsHighest();
        end();
        textStays();
        textIsAll();
        textsInARow();
        faults();
        halls();
        letters();
        people();
        guards();
        doors();
        where();
        does();
        counts();
        whole();
        sets();
        setsNothing();
        closes();
        undoes();
        twentyActs();
        comes();
        images();
        checkByte();
        octets();
        on();
        onNone();
        lastCall();
        CHECK.finish();
    }

    private static void newObject() {
        CHECK.says("`NONE = -1`: There is none; it is refused.");
        CHECK.due("NONE", StrokeHall.NONE, -1);
        CHECK.says("`NOTHING = -1000000000000000L`: Told where a number below 0 may be one.");
        CHECK.due("NOTHING", StrokeHall.NOTHING, -1000000000000000L);
        CHECK.says("No hall, nobody.");
        StrokeHall hall = new StrokeHall();
        int[] due = {0, 0, 0, 0, 0, 0, 0, 60, 20, 1, 3, 0, 0};
        for (int what = 0; what < due.length; what++) {
            CHECK.due("hall(" + what + ")", hall.hall(what), due[what]);
        }
        for (int what = 0; what < 9; what++) {
            CHECK.due("whole(" + what + ")", hall.whole(what), NONE);
            CHECK.due("person(0, " + what + ")", hall.person(0, what), NONE);
            CHECK.due("does(0, " + what + ")", hall.does(0, what), NONE);
        }
        for (int what = 0; what < 4; what++) {
            CHECK.due("count(0, " + what + ")", hall.count(0, what), 0);
            CHECK.due("count(200, " + what + ")", hall.count(200, what), 0);
            CHECK.due("count(201, " + what + ")", hall.count(201, what), NONE);
        }
        CHECK.due("nothing on the tape", hall.end(1), false);
        CHECK.due("nothing to undo", hall.undo(), false);
        CHECK.due("no image", hall.octet(0), NONE);
    }

    private static void feed() {
        CHECK.says("how many there are; NONE, doing nothing, if there would be more than 1600.");
        StrokeHall hall = new StrokeHall();
        Check.tape(hall, "hall 2 2;" + " ".repeat(11));
        for (int k = 2; k <= 80; k++) {
            CHECK.due("feed " + k, hall.feed(BLANKS, BLANKS, BLANKS, BLANKS, BLANKS), 20 * k);
        }
        CHECK.due("feed 81", hall.feed(0, 0, 0, 0, 0), NONE);
        CHECK.due("feed 82", hall.feed(0, 0, 0, 0, 0), NONE);
        CHECK.due("no byte behind 1600", hall.end(1601), false);
        CHECK.due("all 1600", hall.end(1600), true);
        CHECK.due("the text is as it was", hall.text(), 1);
        CHECK.due("the tape is free again", hall.feed(0, 0, 0, 0, 0), 20);
        for (int there : new int[] {1580, 1581, 1599}) {
            hall = new StrokeHall();
            for (int k = 1; k <= 80; k++) {
                hall.feed(BLANKS, BLANKS, BLANKS, BLANKS, BLANKS);
            }
            hall.end(there);
            CHECK.due("feed behind " + there, hall.feed(BLANKS, BLANKS, BLANKS, BLANKS, BLANKS),
                there == 1580 ? 1600 : NONE);
            CHECK.due("bytes behind " + there, hall.end(there + 1), there == 1580);
        }
    }

    /** Twenty bytes are an image of six people and a door: each of them must come into its place. */
    private static void feedsHighest() {
        CHECK.says("Twenty bytes come behind those on the tape, of each number the highest first:");
        StringBuilder text = new StringBuilder("hall 9 6;door 0 0;");
        int[] octets = new int[19];
        for (int p = 0; p < 6; p++) {
            text.append(person("a" + (char) ('a' + p), "0 0", "0", 0, "x"));
            octets[3 * p] = 101 + 3 * p;
            octets[3 * p + 1] = 1 + p;
            octets[3 * p + 2] = 20 + 5 * p;
        }
        octets[18] = 1;
        int[] image = withCheck(octets);
        int[] n = new int[5];
        for (int k = 0; k < 20; k++) {
            n[k / 4] = n[k / 4] << 8 | image[k];
        }
        StrokeHall six = CHECK.fine(text.toString());
        CHECK.due("one feed", six.feed(n[0], n[1], n[2], n[3], n[4]), 20);
        CHECK.due("on()", six.on(), true);
        for (int p = 0; p < 6; p++) {
            CHECK.due("the watch of " + p, six.person(p, 1), 101 + 3 * p);
            CHECK.due("daring of " + p, six.person(p, 2), 1 + p);
            CHECK.due("the CELL of " + p, six.person(p, 0), 20 + 5 * p);
        }
        CHECK.due("the DOOR", six.door(0, 1), 1);
        StrokeHall hall = new StrokeHall();
        CHECK.due("20 bytes", hall.feed(0x68616C6C, 0x20322033, 0x3B737472, 0x6F6B6520, 0x39373B0A), 20);
        CHECK.due("20 more", hall.feed(0x6F70656E, 0x2032393B, BLANKS, BLANKS, BLANKS), 40);
        CHECK.due("three STATEMENTS", hall.text(), 3);
        CHECK.due("HIGH", hall.hall(1), 3);
        CHECK.due("the stroke", hall.hall(7), 97);
        CHECK.due("open", hall.hall(8), 29);
        for (int octet : new int[] {127, 128, 200, 255}) {
            hall.feed(octet << 24, 0, 0, 0, 0);
            CHECK.due("a byte of " + octet, hall.text(), NONE);
            CHECK.due("its FAULT", hall.fault(0), 1);
            CHECK.due("its place", hall.fault(1), 0);
        }
    }

    private static void end() {
        CHECK.says("The tape has its first n bytes alone: true; false, doing nothing, if it has not so many, or n "
            + "is below 0.");
        StrokeHall hall = new StrokeHall();
        CHECK.due("end(0) of none", hall.end(0), true);
        CHECK.due("end(1) of none", hall.end(1), false);
        CHECK.due("end(-1) of none", hall.end(-1), false);
        Check.tape(hall, "hall 2 2;x");
        for (int n : new int[] {-1, MIN, 11, 20, 1600, 1601, MAX}) {
            CHECK.due("end(" + n + ")", hall.end(n), false);
        }
        CHECK.due("as many as there are", hall.end(10), true);
        CHECK.due("one fewer", hall.end(9), true);
        CHECK.due("what went is gone", hall.end(10), false);
        CHECK.due("text()", hall.text(), 1);
        Check.tape(hall, "hall 3 2;xyz");
        hall.end(9);
        Check.tape(hall, 9, "near 5;");
        CHECK.due("behind the first nine", hall.text(), 2);
        CHECK.due("near", hall.hall(9), 5);
        Check.tape(hall, "hall 3 2;");
        CHECK.due("end(0)", hall.end(0), true);
        CHECK.due("no text is left", hall.text(), NONE);
        CHECK.due("FAULT 1", hall.fault(0), 1);
        CHECK.due("at 0", hall.fault(1), 0);
    }

    private static String state(StrokeHall hall) {
        StringBuilder text = new StringBuilder();
        for (int what = 0; what < 13; what++) {
            text.append(hall.hall(what)).append(' ');
        }
        for (int p = 0; p < 4; p++) {
            for (int what = 0; what < 6; what++) {
                text.append(hall.person(p, what)).append(' ').append(hall.letter(0, p, what)).append(' ');
            }
            text.append(hall.where(p, 0)).append(' ').append(hall.does(p, 0)).append(' ').append(hall.does(p,
                1)).append(' ');
        }
        for (int g = 0; g < 3; g++) {
            text.append(hall.guard(g, 0)).append(' ').append(hall.guard(g, 1)).append(' ').append(hall.guard(g,
                2)).append(' ');
            text.append(hall.letter(1, g, 0)).append(' ').append(hall.door(g, 0)).append(' ').append(hall.door(g,
                1)).append(' ');
        }
        return text.toString();
    }

    private static void textStays() {
        CHECK.says("NONE with a FAULT (all stays; one without a STATEMENT has FAULT 1 at its length).");
        StrokeHall hall = CHECK.fine(TEXT);
        hall.set(0, 0, 70);
        hall.set(1, 2, 0);
        hall.close(0, true);
        hall.come(5);
        String before = state(hall);
        String other = "hall 9 6;wall 1 1;door 2 2;door 3 3;door 5 5;"
            + "person bob at 4 4 slow 9 dares 9 comes 0 walks nnn passer;"
            + "guard ida at 8 5 sees 9 looks 9;stroke 50;open 9;near 4;enough 7;";
        Check.tape(hall, other + "x");
        CHECK.due("a FAULT at the end", hall.text(), NONE);
        CHECK.due("all stays: " + before, state(hall).equals(before), true);
        Check.tape(hall, "");
        CHECK.due("no byte", hall.text(), NONE);
        CHECK.due("FAULT 1", hall.fault(0), 1);
        CHECK.due("at its length", hall.fault(1), 0);
        Check.tape(hall, " \n ");
        CHECK.due("blanks alone", hall.text(), NONE);
        CHECK.due("FAULT 1 again", hall.fault(0), 1);
        CHECK.due("at its length of 3", hall.fault(1), 3);
        CHECK.due("all stays still", state(hall).equals(before), true);
        CHECK.due("what was set can be undone", hall.undo() && hall.undo() && hall.undo() && !hall.undo(), true);
        CHECK.due("the watch of the text", hall.person(0, 1), 67);
    }

    private static void textIsAll() {
        CHECK.says("Without one all come, no DOOR is closed, nothing can be undone; the seed stays.");
        StrokeHall hall = CHECK.fine(TEXT);
        String told = state(hall);
        hall.set(0, 0, 70);
        hall.close(1, true);
        hall.come(0);
        hall.seed(12345);
        Check.tape(hall, TEXT);
        CHECK.due("the text again", hall.text(), 14);
        CHECK.due("as at first", state(hall).equals(told), true);
        CHECK.due("all come", hall.hall(11), 7);
        CHECK.due("no DOOR is closed", hall.hall(4), 0);
        CHECK.due("ACTS", hall.hall(12), 0);
        CHECK.due("nothing can be undone", hall.undo(), false);
        StrokeHall seeded = CHECK.fine(TEXT);
        seeded.seed(12345);
        for (int k = 0; k < 9; k++) {
            CHECK.due("the seed stays: lot " + k, hall.lot(), seeded.lot());
        }
        CHECK.says("how many STATEMENTS;");
        for (int many = 1; many <= 70; many++) {
            Check.tape(hall, "hall 2 2;" + "near 1;".repeat(many - 1));
            CHECK.due(many + " STATEMENTS", hall.text(), many);
            hall = many % 15 == 0 ? new StrokeHall() : hall;
        }
    }

    /** Each text is by itself: none has anything of those that were there, or were refused, ahead of it. */
    private static void textsInARow() {
        CHECK.says("The tape (it goes) is THE HALL:");
        StringBuilder full = new StringBuilder("hall 9 6;stroke 9;open 9;near 2;enough 9;");
        for (int k = 0; k < 15; k++) {
            full.append("wall ").append(k % 9).append(' ').append(k / 9).append(';');
        }
        for (int k = 0; k < 9; k++) {
            full.append("person p").append((char) ('a' + k)).append(" at ").append(k)
                .append(" 5 slow 9 dares 9 comes 2 walks nesw passer;");
        }
        for (int k = 0; k < 6; k++) {
            full.append("door ").append(k).append(" 4;");
        }
        for (int k = 0; k < 4; k++) {
            full.append("guard g").append((char) ('a' + k)).append(" at 8 4 sees 1 looks 20;");
        }
        String[] texts = {full.toString(), "hall 2 2;", full + "x",
            "hall 2 2;person pa at 1 1 slow 0 dares 0 comes 4 walks x;",
            full.toString(), full.toString(), "hall 9 6;person ga at 0 0 slow 0 dares 0 comes 4 walks s;"};
        int[] statements = {39, 1, NONE, 2, 39, 39, 2};
        int[][] halls = {{9, 6, 15, 6, 9, 4, 9, 9, 2, 9, 511}, {2, 2, 0, 0, 0, 0, 60, 20, 1, 3, 0},
            {2, 2, 0, 0, 0, 0, 60, 20, 1, 3, 0}, {2, 2, 0, 0, 1, 0, 60, 20, 1, 3, 1},
            {9, 6, 15, 6, 9, 4, 9, 9, 2, 9, 511}, {9, 6, 15, 6, 9, 4, 9, 9, 2, 9, 511},
            {9, 6, 0, 0, 1, 0, 60, 20, 1, 3, 1}};
        int[] whats = {0, 1, 2, 3, 5, 6, 7, 8, 9, 10, 11};
        StrokeHall hall = new StrokeHall();
        for (int k = 0; k < texts.length; k++) {
            Check.tape(hall, texts[k]);
            CHECK.due("text " + k, hall.text(), statements[k]);
            CHECK.due("the tape goes, text " + k, hall.end(1), false);
            for (int i = 0; i < whats.length; i++) {
                CHECK.due("hall(" + whats[i] + ") behind text " + k, hall.hall(whats[i]), halls[k][i]);
            }
            CHECK.due("whole(0) behind text " + k, hall.whole(0), NONE);
        }
        CHECK.due("no passer any more", hall.person(0, 4), 0);
        CHECK.due("its STEPS", hall.person(0, 5), 1);
        CHECK.due("where in 0", hall.where(0, 0), 0);
        CHECK.due("where in 3", hall.where(0, 3), 27);
        CHECK.due("where in 5", hall.where(0, 5), 45);
        CHECK.due("he opens", hall.does(0, 0), 60);
        // The morning, too, is the new hall's, though it was asked of the old one.
        Check.tape(hall, "hall 9 6;person ga at 0 0 slow 0 dares 0 comes 4 walks e;stroke 2;");
        hall.text();
        CHECK.due("where in 3 then", hall.where(0, 3), 1);
        CHECK.due("he opens then", hall.does(0, 0), 2);
        Check.tape(hall, "hall 9 6;person ga at 0 1 slow 0 dares 0 comes 4 walks e;stroke 3;"
            + "guard g at 1 1 sees 1 looks 1;");
        hall.text();
        CHECK.due("the ALARM of the third", hall.whole(0), 0);
        CHECK.due("ODDS of the third", hall.odds(), 0);
        Check.tape(hall, "hall 9 6;person ga at 0 1 slow 0 dares 0 comes 4 walks e;stroke 3;"
            + "guard g at 8 1 sees 1 looks 1;"
            + "enough 1;");
        hall.text();
        CHECK.due("ODDS of the fourth", hall.odds(), 1000);
        CHECK.due("the best POST of the fourth", hall.post(0, 0), 0);
    }

    private static void faults() {
        CHECK.says("Of the latest text() or ask(): its FAULT (what 0; 0 without, and ahead of any), its place (1; "
            + "NONE without). NONE for another what.");
        StrokeHall hall = new StrokeHall();
        fault(hall, 0, NONE);
        Check.tape(hall, "hall 2 1;");
        hall.text();
        fault(hall, 2, 7);
        Check.tape(hall, "hall 2 2;");
        hall.text();
        fault(hall, 0, NONE);
        Check.tape(hall, "often x");
        hall.ask();
        fault(hall, 1, 6);
        Check.tape(hall, "x");
        hall.on();
        hall.image();
        hall.odds();
        fault(hall, 1, 6);
        Check.tape(hall, "often all");
        hall.ask();
        fault(hall, 0, NONE);
        Check.tape(hall, "total (((((((");
        hall.ask();
        fault(hall, 4, 12);
        Check.tape(hall, "hall 2 2;guard g at 0 0 sees 1 looks 1;person g at 0 0");
        hall.text();
        fault(hall, 3, 46);
        Check.tape(hall, "hall 2 2;" + "wall 0 0;".repeat(16));
        hall.text();
        fault(hall, 5, 144);
        Check.tape(hall, "hall 2 2;near 2;");
        hall.text();
        fault(hall, 0, NONE);
    }

    private static void fault(StrokeHall hall, int kind, int place) {
        CHECK.due("fault(0)", hall.fault(0), kind);
        CHECK.due("fault(1)", hall.fault(1), place);
        for (int what : new int[] {-1, 2, MAX, MIN}) {
            CHECK.due("fault(" + what + ")", hall.fault(what), NONE);
        }
    }

    private static void halls() {
        CHECK.says("How many there are: 0 WIDE, 1 HIGH, 2 CELLS that are walls, 3 DOORS, 4 closed ones, 5 PEOPLE, "
            + "6 GUARDS, 7 the stroke, 8 open, 9 near, 10 enough, 11 who come (bits), 12 ACTS that can be "
            + "undone. NONE for others.");
        StrokeHall hall = CHECK.fine(TEXT);
        int[] due = {4, 3, 2, 2, 0, 3, 2, 5, 2, 2, 1, 7, 0};
        for (int what = 0; what < due.length; what++) {
            CHECK.due("hall(" + what + ")", hall.hall(what), due[what]);
        }
        for (int what : new int[] {-1, 13, MAX, MIN}) {
            CHECK.due("hall(" + what + ")", hall.hall(what), NONE);
        }
        hall.close(0, true);
        hall.close(1, true);
        CHECK.due("closed ones", hall.hall(4), 2);
        CHECK.due("ACTS", hall.hall(12), 2);
        hall.come(0);
        CHECK.due("nobody comes", hall.hall(11), 0);
        CHECK.due("PEOPLE stay", hall.hall(5), 3);
    }

    private static void letters() {
        CHECK.says("Letter k (0 .. 5) of the NAME of one of the PEOPLE (kind 0), a GUARD (1): 1 .. 26; 0 behind "
            + "it; NONE when there is none such.");
        StrokeHall hall = CHECK.fine("hall 2 2;person azazaz at 0 0 slow 0 dares 0 comes 0 walks x;"
            + "person m at 0 0 slow 0 dares 0 comes 0 walks x;guard zyx at 0 0 sees 1 looks 1;");
        for (int k = 0; k < 6; k++) {
            CHECK.due("letter(0, 0, " + k + ")", hall.letter(0, 0, k), k % 2 == 0 ? 1 : 26);
            CHECK.due("letter(0, 1, " + k + ")", hall.letter(0, 1, k), k == 0 ? 13 : 0);
            CHECK.due("letter(1, 0, " + k + ")", hall.letter(1, 0, k), k < 3 ? 26 - k : 0);
        }
        for (int k : new int[] {-1, 6, MAX, MIN}) {
            CHECK.due("letter(0, 0, " + k + ")", hall.letter(0, 0, k), NONE);
            CHECK.due("letter(1, 0, " + k + ")", hall.letter(1, 0, k), NONE);
        }
        for (int which : new int[] {-1, 2, MAX, MIN}) {
            CHECK.due("letter(0, " + which + ", 0)", hall.letter(0, which, 0), NONE);
        }
        for (int which : new int[] {-1, 1, MAX, MIN}) {
            CHECK.due("letter(1, " + which + ", 0)", hall.letter(1, which, 0), NONE);
        }
        for (int kind : new int[] {-1, 2, MAX, MIN}) {
            CHECK.due("letter(" + kind + ", 0, 0)", hall.letter(kind, 0, 0), NONE);
        }
    }

    private interface Asked {
        int of(int one, int what);
    }

    private static void rows(String call, int[][] due, Asked asked) {
        int[] ones = {MIN, -1, 0, 1, 2, 3, 4, 9, 31, 32, MAX};
        int[] whats = {MIN, -1, 0, 1, 2, 3, 4, 5, 6, 7, MAX};
        for (int one : ones) {
            for (int what : whats) {
                boolean there = one >= 0 && one < due.length && what >= 0 && what < due[one].length;
                CHECK.due(call + "(" + one + ", " + what + ")", asked.of(one, what), there ? due[one][what] : NONE);
            }
        }
    }

    private static void people() {
        CHECK.says("Of one of the PEOPLE: 0 his CELL at first, 1 his watch and 60, 2 daring, 3 comes, 4 whether a "
            + "passer, 5 how many STEPS. NONE when there is none such, or for others.");
        StrokeHall hall = CHECK.fine(TEXT);
        rows("person", new int[][] {{4, 67, 3, 1, 0, 4}, {10, 0, 0, 4, 1, 1}, {5, 60, 1, 3, 0, 1}}, hall::person);
        StrokeHall set = CHECK.fine(TEXT);
        set.set(0, 2, 0);
        set.come(0);
        rows("person of those who do not come",
            new int[][] {{0, 67, 3, 1, 0, 4}, {10, 0, 0, 4, 1, 1}, {5, 60, 1, 3, 0, 1}}, set::person);
    }

    private static void guards() {
        CHECK.says("Of a GUARD: 0 his CELL, 1 how far he sees, 2 at how many he looks. NONE when there is none "
            + "such, or for others.");
        rows("guard", new int[][] {{7, 1, 20}, {10, 9, 4}}, CHECK.fine(TEXT)::guard);
    }

    private static void doors() {
        CHECK.says("Of a DOOR: 0 its CELL, 1 whether it is closed, 2 how many go OUT by it, 3 the SECOND in which "
            + "the last one does (NONE nobody). NONE when there is none such, or for others.");
        // c is open in 5 and 6; ann, who dares at 3, in 12 and 13; the passer does not dare.
        StrokeHall hall = CHECK.fine(TEXT);
        CHECK.due("ann OUT", hall.does(0, 1), 16);
        CHECK.due("c OUT", hall.does(2, 1), 9);
        rows("door", new int[][] {{0, 0, 2, 16}, {3, 0, 0, NONE}}, hall::door);
        StrokeHall closed = CHECK.fine(TEXT);
        closed.close(0, true);
        rows("door closed", new int[][] {{0, 1, 0, NONE}, {3, 0, 2, closed.whole(7)}}, closed::door);
        StrokeHall nobody = CHECK.fine(TEXT);
        nobody.come(0);
        rows("door of nobody", new int[][] {{0, 0, 0, NONE}, {3, 0, 0, NONE}}, nobody::door);
    }

    private static void where() {
        CHECK.says("Where one is in a SECOND (0 .. 200); NONE when there are none such, he did not come, or is "
            + "OUT.");
        StrokeHall hall = CHECK.fine(TEXT);
        CHECK.due("in 0", hall.where(2, 0), 5);
        CHECK.due("in 8", hall.where(2, 8), 0);
        CHECK.due("is OUT", hall.where(2, 9), NONE);
        CHECK.due("is OUT still", hall.where(2, 200), NONE);
        CHECK.due("in 200", hall.where(1, 200), 10);
        for (int second : new int[] {-1, 201, MAX, MIN}) {
            CHECK.due("where(1, " + second + ")", hall.where(1, second), NONE);
        }
        for (int person : new int[] {-1, 3, 9, 31, 32, 33, MAX, MIN}) {
            CHECK.due("where(" + person + ", 0)", hall.where(person, 0), NONE);
        }
        hall.come(5);
        CHECK.due("did not come", hall.where(1, 0), NONE);
        CHECK.due("did come", hall.where(2, 0), 5);
    }

    private static void does() {
        CHECK.says("Of one who comes: 0 the SECOND in which he OPENS, 1 the one in which he is OUT (NONE: never, "
            + "both), 2 1 if he OPENS by his WATCH, 2 by SIGHT, 0 never, 3 the DOOR (NONE). NONE when there "
            + "is none such, or for others.");
        StrokeHall hall = CHECK.fine(TEXT);
        rows("does", new int[][] {{12, 16, 1, 0}, {NONE, NONE, 0, NONE}, {5, 9, 1, 0}}, hall::does);
        StrokeHall sight = CHECK.fine(TEXT);
        sight.set(0, 1, 1);
        CHECK.due("by SIGHT", sight.does(0, 2), 2);
        CHECK.due("in 6", sight.does(0, 0), 6);
        StrokeHall away = CHECK.fine(TEXT);
        away.come(1);
        rows("does of those who do not come", new int[][] {{12, 16, 1, 0}}, away::does);
    }

    private static void counts() {
        CHECK.says("How many are OPEN (what 0), WAIT (1), GO (2), are OUT (3) in a SECOND; NONE when there is "
            + "none such, or for others.");
        StrokeHall hall = CHECK.fine(TEXT);
        int[][] due = {{0, 0, 3, 0, 0}, {4, 0, 3, 0, 0}, {5, 1, 2, 0, 0}, {6, 1, 2, 0, 0}, {7, 0, 2, 1, 0},
            {8, 0, 2, 1, 0}, {9, 0, 2, 0, 1}, {12, 1, 1, 0, 1}, {14, 0, 1, 1, 1}, {15, 0, 1, 1, 1}, {16, 0, 1, 0, 2},
            {200, 0, 1, 0, 2}};
        for (int[] n : due) {
            for (int what = 0; what < 4; what++) {
                CHECK.due("count(" + n[0] + ", " + what + ")", hall.count(n[0], what), n[what + 1]);
            }
            for (int what : new int[] {-1, 4, MAX, MIN}) {
                CHECK.due("count(" + n[0] + ", " + what + ")", hall.count(n[0], what), NONE);
            }
        }
        for (int second : new int[] {-1, 201, 202, MAX, MIN}) {
            for (int what = -1; what < 5; what++) {
                CHECK.due("count(" + second + ", " + what + ")", hall.count(second, what), NONE);
            }
        }
    }

    private static void whole() {
        CHECK.says("Of all: 0 the ALARM (NONE without), 1 the GUARD (the first of those who look up then), 2 the "
            + "PEAK, 3 how many are OPEN then, 4 whether it COMES OFF, 5 the first SECOND in which enough are "
            + "OPEN (NONE), 6 how many passers OPEN, 7 the SECOND in which the last one is OUT (NONE), 8 how "
            + "many OPEN ahead of the stroke. NONE for others, or without a hall.");
        wholes("as told", CHECK.fine(TEXT), NONE, NONE, 5, 1, 1, 5, 0, 16, 0);
        wholes("nobody", CHECK.fine("hall 2 2;"), NONE, NONE, 0, 0, 0, NONE, 0, NONE, 0);
        wholes("without a hall", new StrokeHall(), NONE, NONE, NONE, NONE, NONE, NONE, NONE, NONE, NONE);
        // The first of two who look up in one second, though a third would be the first later.
        String guards = "hall 9 2;guard g at 8 0 sees 1 looks 1;guard h at 5 1 sees 1 looks 1;"
            + "guard i at 5 0 sees 1 looks 1;"
            + "guard j at 4 1 sees 1 looks 2;";
        wholes("guards", CHECK.fine(guards + person("a", "0 0", "0", 0, "e")), 4, 2, 0, 0, 0, NONE, 0, NONE, 0);
        wholes("guards of two", CHECK.fine(guards + person("a", "0 0", "0", 0, "e")
            + person("b", "0 1", "0", 0, "e")), 4, 1, 0, 0, 0, NONE, 0, NONE, 0);
        // The first of the text is a passer who opens, the last out, and ahead of the stroke.
        wholes("the first of all", CHECK.fine("hall 9 2;stroke 5;open 1;enough 2;near 1;door 8 0;"
            + person("p", "6 0", "0", 1, "x passer") + person("a", "7 0", "-1", 0, "x")
            + person("b", "8 1", "0", 0, "x")), NONE, NONE, 5, 2, 1, 5, 1, 8, 1);
        wholes("the last of all", CHECK.fine("hall 9 2;stroke 5;open 1;enough 2;near 1;door 8 0;"
            + person("b", "8 1", "0", 0, "x") + person("a", "7 0", "-1", 0, "x")
            + person("p", "6 0", "0", 1, "x passer")), NONE, NONE, 5, 2, 1, 5, 1, 8, 1);
        wholes("the first is ahead of the stroke", CHECK.fine("hall 9 2;stroke 5;open 1;"
            + person("a", "0 0", "-1", 0, "x") + person("b", "8 0", "-2", 0, "x") + person("c", "4 0", "0", 0, "x")),
            NONE, NONE, 3, 1, 0, NONE, 0, NONE, 2);
        // Enough are passed over at once: none in 4, three in 5.
        wholes("more than enough", CHECK.fine("hall 9 2;stroke 5;open 1;enough 2;" + person("a", "0 0", "0", 0, "x")
            + person("b", "0 0", "0", 0, "x") + person("c", "0 0", "0", 0, "x")), NONE, NONE, 5, 3, 1, 5, 0, NONE, 0);
    }

    private static String person(String name, String cell, String slow, int dares, String walks) {
        return "person " + name + " at " + cell + " slow " + slow + " dares " + dares + " comes 4 walks " + walks + ";";
    }

    private static void wholes(String call, StrokeHall hall, int... due) {
        for (int what = 0; what < 9; what++) {
            CHECK.due(call + ": whole(" + what + ")", hall.whole(what), due[what]);
        }
        for (int what : new int[] {-1, 9, MAX, MIN}) {
            CHECK.due(call + ": whole(" + what + ")", hall.whole(what), NONE);
        }
    }

    private static void sets() {
        CHECK.says("One's watch (what 0: n less 60, 0 .. 120), daring (1), CELL (2; no wall) is another one: what "
            + "it was (the watch and 60);");
        StrokeHall hall = CHECK.fine(TEXT);
        int former = 67;
        for (int n : new int[] {0, 1, 59, 60, 61, 119, 120}) {
            CHECK.due("set(0, 0, " + n + ")", hall.set(0, 0, n), former);
            CHECK.due("the watch", hall.person(0, 1), n);
            CHECK.due("it opens", hall.does(0, 0), Math.max(1, 5 + n - 60));
            former = n;
        }
        former = 3;
        for (int n = 0; n <= 9; n++) {
            CHECK.due("set(0, 1, " + n + ")", hall.set(0, 1, n), former);
            CHECK.due("daring", hall.person(0, 2), n);
            former = n;
        }
        former = 4;
        for (int n : new int[] {0, 1, 2, 3, 4, 5, 6, 7, 9, 10}) {
            CHECK.due("set(0, 2, " + n + ")", hall.set(0, 2, n), former);
            CHECK.due("his CELL", hall.person(0, 0), n);
            CHECK.due("where in 0", hall.where(0, 0), n);
            former = n;
        }
        CHECK.due("a passer's watch", hall.set(1, 0, 120), 0);
        CHECK.due("the last one's", hall.set(2, 1, 0), 1);
        hall.come(0);
        CHECK.due("of one who does not come", hall.set(2, 1, 1), 0);
        StrokeHall corner = CHECK.fine("hall 9 6;" + person("a", "0 0", "0", 0, "x"));
        CHECK.due("the last CELL", corner.set(0, 2, 53), 0);
        CHECK.due("behind the last CELL", corner.set(0, 2, 54), NONE);
    }

    private static void setsNothing() {
        CHECK.says("NONE, doing nothing, when something can't be.");
        StrokeHall hall = CHECK.fine(TEXT);
        hall.set(2, 1, 2);
        String before = state(hall);
        int[][] none = {{0, 0, -1}, {0, 0, 121}, {0, 0, MAX}, {0, 0, MIN}, {0, 1, -1}, {0, 1, 10}, {0, 1, MAX},
            {0, 1, MIN}, {0, 2, -1}, {0, 2, 8}, {0, 2, 11}, {0, 2, 12}, {0, 2, 53}, {0, 2, 54}, {0, 2, MAX},
            {0, 2, MIN}, {0, 3, 0}, {0, -1, 0}, {0, MAX, 0}, {0, MIN, 0}, {-1, 0, 0}, {3, 0, 0}, {9, 1, 0},
            {MAX, 2, 0}, {MIN, 0, 0}};
        for (int[] n : none) {
            CHECK.due("set(" + n[0] + ", " + n[1] + ", " + n[2] + ")", hall.set(n[0], n[1], n[2]), NONE);
        }
        CHECK.due("all stays", state(hall).equals(before), true);
        CHECK.due("one ACT", hall.hall(12), 1);
    }

    private static void closes() {
        CHECK.says("A DOOR is closed (is true), or not: true; false when there is none such, or it is so already.");
        StrokeHall hall = CHECK.fine(TEXT);
        CHECK.due("not closed already", hall.close(0, false), false);
        CHECK.due("no ACT", hall.hall(12), 0);
        CHECK.due("closed", hall.close(0, true), true);
        CHECK.due("closed already", hall.close(0, true), false);
        CHECK.due("one ACT", hall.hall(12), 1);
        CHECK.due("the other", hall.close(1, true), true);
        CHECK.due("opened", hall.close(0, false), true);
        CHECK.due("three ACTS", hall.hall(12), 3);
        for (int door : new int[] {-1, 2, 6, MAX, MIN}) {
            CHECK.due("close(" + door + ", true)", hall.close(door, true), false);
            CHECK.due("close(" + door + ", false)", hall.close(door, false), false);
        }
        CHECK.due("three ACTS still", hall.hall(12), 3);
        hall.undo();
        CHECK.due("undone, it is closed already", hall.close(0, true), false);
        hall.undo();
        CHECK.due("undone, the other is not", hall.close(1, false), false);
    }

    private static void undoes() {
        CHECK.says("The latest ACT is undone: true; false when none can be.");
        StrokeHall hall = CHECK.fine(TEXT);
        CHECK.due("none", hall.undo(), false);
        String before = imageOf(hall);
        String[] between = new String[3];
        hall.set(0, 0, 50);
        between[1] = imageOf(hall);
        hall.set(0, 0, 50);
        between[2] = imageOf(hall);
        CHECK.due("set to what it is is an ACT, too", hall.hall(12), 2);
        hall.set(1, 2, 1);
        hall.close(1, true);
        CHECK.due("four ACTS", hall.hall(12), 4);
        CHECK.due("the DOOR", hall.undo(), true);
        CHECK.due("not closed", hall.door(1, 1), 0);
        CHECK.due("the CELL", hall.undo(), true);
        CHECK.due("as behind the second", imageOf(hall).equals(between[2]), true);
        CHECK.due("the second watch", hall.undo(), true);
        CHECK.due("as behind the first", imageOf(hall).equals(between[1]), true);
        CHECK.due("the first watch", hall.undo(), true);
        CHECK.due("as at first", imageOf(hall).equals(before), true);
        CHECK.due("none any more", hall.undo(), false);
        hall.set(0, 2, 6);
        CHECK.due("where he is set to", hall.where(0, 0), 6);
        hall.undo();
        CHECK.due("where he was", hall.where(0, 0), 4);
        CHECK.due("where he walks", hall.where(0, 1), 0);
        hall.set(0, 0, 0);
        CHECK.due("he opens in 1", hall.does(0, 0), 1);
        hall.undo();
        CHECK.due("he opens in 12", hall.does(0, 0), 12);
        hall.close(0, true);
        CHECK.due("he is OUT by the other", hall.does(0, 3), 1);
        hall.undo();
        CHECK.due("he is OUT by the first", hall.does(0, 3), 0);
    }

    private static String imageOf(StrokeHall hall) {
        StringBuilder text = new StringBuilder();
        for (int p = 0; p < 3; p++) {
            for (int what = 0; what < 3; what++) {
                text.append(hall.person(p, what)).append(' ');
            }
        }
        return text.append(hall.door(0, 1)).append(hall.door(1, 1)).toString();
    }

    private static StrokeHall withActs(int many) {
        StrokeHall hall = CHECK.fine(TEXT);
        for (int k = 0; k < many; k++) {
            if (k % 4 == 3) {
                hall.close(k / 4 % 2, hall.door(k / 4 % 2, 1) == 0);
            } else {
                hall.set(k / 2 % 3, k % 4, k % 4 == 2 ? k % 7 : k % 10);
            }
        }
        return hall;
    }

    private static void twentyActs() {
        CHECK.says("The last 20 can be undone.");
        for (int many : new int[] {19, 20, 21, 45}) {
            StrokeHall hall = CHECK.fine(TEXT);
            for (int k = 0; k < many; k++) {
                CHECK.due("set to " + k, hall.set(0, 0, k), k == 0 ? 67 : k - 1);
                CHECK.due("ACTS behind " + (k + 1), hall.hall(12), Math.min(20, k + 1));
            }
            int undone = 0;
            while (undone < 50 && hall.undo()) {
                undone++;
                CHECK.due("ACTS left", hall.hall(12), Math.min(20, many) - undone);
            }
            CHECK.due("undone of " + many, undone, Math.min(20, many));
            CHECK.due("the watch behind all", hall.person(0, 1), many <= 20 ? 67 : many - 21);
        }
        // Each of the PEOPLE, of what can be set, and of the DOORS: what goes from the far end must be the oldest ACT.
        StrokeHall all = withActs(30);
        for (int k = 29; k >= 10; k--) {
            CHECK.due("undo of ACT " + k, all.undo(), true);
            String is = imageOf(all);
            String due = imageOf(withActs(k));
            CHECK.due(is + " is " + due, is.equals(due), true);
        }
        CHECK.due("the first ten stay", all.undo(), false);
        StrokeHall mixed = CHECK.fine(TEXT);
        for (int k = 0; k < 24; k++) {
            CHECK.due("close " + k, mixed.close(0, k % 2 == 0), true);
        }
        CHECK.due("set behind them", mixed.set(2, 2, 0), 5);
        for (int k = 0; k < 20; k++) {
            CHECK.due("undo " + k, mixed.undo(), true);
            CHECK.due("closed behind undo " + k, mixed.door(0, 1), k % 2);
            CHECK.due("his CELL behind undo " + k, mixed.person(2, 0), 5);
        }
        CHECK.due("no more", mixed.undo(), false);
    }

    private static void comes() {
        CHECK.says("Those of the PEOPLE come (bits) from now on (no ACT): true; false when there are none such.");
        StrokeHall hall = CHECK.fine(TEXT);
        for (int bits = 0; bits < 8; bits++) {
            CHECK.due("come(" + bits + ")", hall.come(bits), true);
            CHECK.due("who come", hall.hall(11), bits);
            CHECK.due("how many wait", hall.count(0, 1), Integer.bitCount(bits));
            for (int refused : new int[] {8, 9, 15, -1, 512, MAX, MIN, MIN + 1}) {
                CHECK.due("come(" + refused + ")", hall.come(refused), false);
            }
            CHECK.due("who come still", hall.hall(11), bits);
        }
        CHECK.due("no ACT", hall.hall(12), 0);
        StringBuilder nine = new StringBuilder("hall 2 2;");
        for (int k = 0; k < 9; k++) {
            nine.append(person("a" + (char) ('a' + k), "0 0", "0", 0, "x"));
        }
        StrokeHall full = CHECK.fine(nine.toString());
        CHECK.due("all of nine", full.come(511), true);
        CHECK.due("a tenth", full.come(512), false);
        CHECK.due("nobody of none", new StrokeHall().come(0), true);
        CHECK.due("one of none", new StrokeHall().come(1), false);
    }

    private static int[] withCheck(int... octets) {
        int[] image = Arrays.copyOf(octets, octets.length + 1);
        int c = 151;
        for (int octet : octets) {
            c = (3 * c + octet) % 253;
        }
        image[octets.length] = c;
        return image;
    }

    private static void image(StrokeHall hall, int... due) {
        CHECK.due("image()", hall.image(), due.length);
        for (int k = 0; k < due.length; k++) {
            CHECK.due("octet(" + k + ") of " + Arrays.toString(due), hall.octet(k), due[k]);
        }
        CHECK.due("octet behind", hall.octet(due.length), NONE);
    }

    private static void images() {
        CHECK.says("AN IMAGE: for each of the PEOPLE his watch and 60, daring, CELL; for each DOOR 1 if closed, "
            + "else 0;");
        image(CHECK.fine(TEXT), withCheck(67, 3, 4, 0, 0, 10, 60, 1, 5, 0, 0));
        StrokeHall hall = CHECK.fine(TEXT);
        hall.set(0, 0, 120);
        hall.set(1, 1, 9);
        hall.set(2, 2, 0);
        hall.close(1, true);
        hall.come(0);
        image(hall, withCheck(120, 3, 4, 0, 9, 10, 60, 1, 0, 0, 1));
        hall.undo();
        image(hall, withCheck(120, 3, 4, 0, 9, 10, 60, 1, 0, 0, 0));
        StringBuilder full = new StringBuilder("hall 9 6;");
        int[] octets = new int[33];
        for (int k = 0; k < 9; k++) {
            full.append(person("p" + (char) ('a' + k), k + " 5", "60", 9, "x"));
            octets[3 * k] = 120;
            octets[3 * k + 1] = 9;
            octets[3 * k + 2] = 45 + k;
        }
        for (int k = 0; k < 6; k++) {
            full.append("door ").append(k).append(" 0;");
        }
        StrokeHall most = CHECK.fine(full.toString());
        image(most, withCheck(octets));
        for (int k = 0; k < 6; k++) {
            most.close(k, true);
            octets[27 + k] = 1;
        }
        image(most, withCheck(octets));
        CHECK.due("the last byte of 34", most.octet(33), withCheck(octets)[33]);
    }

    private static void checkByte() {
        CHECK.says("last a byte: all ahead from 151 on, c = (3 c + it) mod 253.");
        image(new StrokeHall(), 151);
        image(CHECK.fine("hall 2 2;"), 151);
        image(CHECK.fine("hall 2 2;door 0 0;"), 0, 200);
        StrokeHall closed = CHECK.fine("hall 2 2;door 0 0;door 1 0;");
        closed.close(0, true);
        image(closed, 1, 0, 97);
        closed.close(1, true);
        image(closed, 1, 1, 98);
        // 3 times 151 and 53 is 506, twice 253: the byte is 0; with 52 it is 252.
        image(CHECK.fine("hall 2 2;" + person("a", "0 0", "-7", 0, "x")), 53, 0, 0, 0);
        image(CHECK.fine("hall 2 2;" + person("a", "0 0", "-8", 0, "x")), 52, 0, 0, 244);
    }

    private static void octets() {
        CHECK.says("Byte k of the latest image(); NONE when there is none such.");
        StrokeHall hall = CHECK.fine(TEXT);
        CHECK.due("ahead of any", hall.octet(0), NONE);
        hall.image();
        hall.set(0, 0, 1);
        CHECK.due("of the latest", hall.octet(0), 67);
        for (int k : new int[] {-1, 12, 33, 34, MAX, MIN}) {
            CHECK.due("octet(" + k + ")", hall.octet(k), NONE);
        }
        CHECK.due("the last", hall.octet(11), withCheck(67, 3, 4, 0, 0, 10, 60, 1, 5, 0, 0)[11]);
        Check.tape(hall, "hall 2 2;");
        hall.text();
        CHECK.due("behind another text", hall.octet(0), 67);
        hall.image();
        CHECK.due("of that text", hall.octet(0), 151);
        CHECK.due("a shorter one", hall.octet(1), NONE);
    }

    private static String bytes(int... octets) {
        StringBuilder text = new StringBuilder();
        for (int octet : octets) {
            text.append((char) octet);
        }
        return text.toString();
    }

    private static void on() {
        CHECK.says("The tape (it goes) is AN IMAGE of this HALL: true, all is as it tells, nothing can be undone;");
        StrokeHall hall = CHECK.fine(TEXT);
        hall.set(0, 0, 99);
        hall.come(3);
        hall.where(0, 0);
        Check.tape(hall, bytes(withCheck(120, 9, 0, 0, 0, 3, 61, 5, 10, 1, 0)));
        CHECK.due("on()", hall.on(), true);
        CHECK.due("the tape goes", hall.end(1), false);
        CHECK.due("nothing can be undone", hall.undo(), false);
        CHECK.due("ACTS", hall.hall(12), 0);
        image(hall, withCheck(120, 9, 0, 0, 0, 3, 61, 5, 10, 1, 0));
        CHECK.due("where", hall.where(0, 0), 0);
        CHECK.due("where the second", hall.where(1, 0), 3);
        CHECK.due("who come stay", hall.hall(11), 3);
        CHECK.due("closed ones", hall.hall(4), 1);
        // What it writes it takes, as it is and in another object of the same text.
        StrokeHall other = CHECK.fine(TEXT);
        Check.tape(other, bytes(withCheck(120, 9, 0, 0, 0, 3, 61, 5, 10, 1, 0)));
        CHECK.due("on() of another", other.on(), true);
        other.come(3);
        CHECK.due("as the first", state(other).equals(state(hall)), true);
        StrokeHall bare = CHECK.fine("hall 2 2;");
        Check.tape(bare, bytes(151));
        CHECK.due("a hall of nobody", bare.on(), true);
        int[][] edges = {{0, 0, 0, 0, 0, 0, 0, 0, 0, 0, 0}, {120, 9, 10, 120, 9, 10, 120, 9, 10, 1, 1}};
        for (int[] octets : edges) {
            Check.tape(other, bytes(withCheck(octets)));
            CHECK.due("on() of " + Arrays.toString(octets), other.on(), true);
            image(other, withCheck(octets));
        }
    }

    private static void onNone() {
        CHECK.says("false when it is none (watches to 120, daring to 9, CELLS without wall), or there is no hall, "
            + "all staying.");
        StrokeHall hall = CHECK.fine(TEXT);
        hall.set(0, 0, 99);
        hall.come(6);
        String before = state(hall);
        int[] right = {120, 9, 0, 0, 0, 3, 61, 5, 10, 1, 0};
        for (int k = 0; k < 11; k++) {
            for (int octet : new int[] {2, 8, 10, 11, 12, 54, 121, 128, 255}) {
                int[] octets = right.clone();
                octets[k] = octet;
                boolean fine = k >= 9 ? octet < 2 : k % 3 == 0 ? octet <= 120 : k % 3 == 1 ? octet <= 9
                    : octet < 11 && octet != 8;
                if (!fine) {
                    StrokeHall one = CHECK.fine(TEXT);
                    Check.tape(one, bytes(withCheck(octets)));
                    CHECK.due("on() with " + octet + " in " + k, one.on(), false);
                    CHECK.due("the tape goes", one.end(1), false);
                    image(one, withCheck(67, 3, 4, 0, 0, 10, 60, 1, 5, 0, 0));
                }
            }
        }
        int[] checked = withCheck(right);
        for (int off = 1; off < 256; off += 51) {
            int[] wrong = checked.clone();
            wrong[11] = (wrong[11] + off) % 256;
            Check.tape(hall, bytes(wrong));
            CHECK.due("another last byte, " + off + " off", hall.on(), false);
        }
        String[] none = {"", bytes(checked) + " ", bytes(checked).substring(0, 11), bytes(checked).substring(1),
            bytes(withCheck()), bytes(withCheck(120, 9, 0, 0, 0, 3, 61, 5, 10, 1)),
            bytes(withCheck(120, 9, 0, 0, 0, 3, 61, 5, 10, 1, 0, 0)), bytes(withCheck(120, 9, 0, 0, 0, 3, 1, 0))};
        for (String text : none) {
            Check.tape(hall, text);
            CHECK.due("on() of " + text.length() + " bytes", hall.on(), false);
            CHECK.due("the tape goes", hall.end(1), false);
        }
        CHECK.due("all stays: " + before, state(hall).equals(before), true);
        CHECK.due("it can be undone still", hall.undo(), true);
        StrokeHall bare = new StrokeHall();
        Check.tape(bare, bytes(151));
        CHECK.due("on() without a hall", bare.on(), false);
        CHECK.due("no hall", bare.hall(0), 0);
    }

    private static void lastCall() {
        CHECK.says("An object is used for at most 512 calls after it has been made;");
        StrokeHall hall = new StrokeHall();
        int calls = 0;
        for (; calls < 80; calls++) {
            hall.feed(BLANKS, BLANKS, BLANKS, BLANKS, BLANKS);
        }
        hall.end(0);
        hall.feed(0x68616C6C, 0x20392036, 0x3B202020, BLANKS, BLANKS);
        CHECK.due("text()", hall.text(), 1);
        calls += 3;
        for (; calls < 508; calls++) {
            hall.odds();
        }
        hall.feed(0x6F667465, 0x6E20616C, 0x6C202020, BLANKS, BLANKS);
        CHECK.due("call 510", hall.ask(), 201);
        CHECK.due("call 511", hall.hall(0), 9);
        CHECK.due("call 512", hall.hall(1), 6);
    }
}
