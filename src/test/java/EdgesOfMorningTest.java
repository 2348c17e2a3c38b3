/** Term II: each sentence that names a bound of a morning, with what stands on the bound and what is beyond it. */
public final class EdgesOfMorningTest {
    private static final int NONE = StrokeHall.NONE;
    private static final Check CHECK = new Check("EdgesOfMorningTest");

    public static void main(String[] args) {
        lastSecond();
        alarmInTheLastSecond();
        secondNought();
        allAtOnce();
        overAndOver();
        ways();
        offTheHall();
        byWatch();
        bySight();
        nearCells();
        openFor();
        atTheDoor();
        firstOfTheWays();
        nearestDoor();
        cantReach();
        looksUp();
        looksUpAhead();
        behindTheAlarm();
        comesOff();
        peak();
        whoComes();
        closedDoor();
        CHECK.finish();
    }

    private static String person(String name, String cell, String slow, int dares, String walks) {
        return "person " + name + " at " + cell + " slow " + slow + " dares " + dares + " comes 4 walks " + walks + ";";
    }

    private static void opens(StrokeHall hall, int person, int second, int how) {
        CHECK.due("does(" + person + ", 0)", hall.does(person, 0), second);
        CHECK.due("does(" + person + ", 2)", hall.does(person, 2), how);
    }

    private static void cells(StrokeHall hall, int person, int from, int... cells) {
        for (int k = 0; k < cells.length; k++) {
            CHECK.due("where(" + person + ", " + (from + k) + ")", hall.where(person, from + k), cells[k]);
        }
    }

    private static void counts(StrokeHall hall, int second, int open, int wait, int go, int out) {
        int[] due = {open, wait, go, out};
        for (int what = 0; what < 4; what++) {
            CHECK.due("count(" + second + ", " + what + ")", hall.count(second, what), due[what]);
        }
    }

    private static void lastSecond() {
        CHECK.says("SECONDS 0 .. 200.");
        // He is open from 159 to 188: eleven steps to the door bring him into it in 199, twelve in 200.
        String text = "hall 9 6;door 0 0;stroke 99;open 30;";
        StrokeHall hall = CHECK.fine(text + person("a", "8 3", "60", 0, "x"));
        opens(hall, 0, 159, 1);
        cells(hall, 0, 198, 1, 0, NONE);
        CHECK.due("OUT in the last SECOND", hall.does(0, 1), 200);
        CHECK.due("by a DOOR", hall.does(0, 3), 0);
        CHECK.due("how many by it", hall.door(0, 2), 1);
        CHECK.due("the last by it", hall.door(0, 3), 200);
        CHECK.due("the last one of all", hall.whole(7), 200);
        counts(hall, 199, 0, 0, 1, 0);
        counts(hall, 200, 0, 0, 0, 1);
        hall = CHECK.fine(text + person("a", "8 4", "60", 0, "x"));
        cells(hall, 0, 198, 2, 1, 0, NONE);
        CHECK.due("not OUT any more", hall.does(0, 1), NONE);
        CHECK.due("by no DOOR", hall.does(0, 3), NONE);
        CHECK.due("nobody by it", hall.door(0, 2), 0);
        CHECK.due("nobody is the last by it", hall.door(0, 3), NONE);
        CHECK.due("nobody is the last one of all", hall.whole(7), NONE);
        counts(hall, 200, 0, 0, 1, 0);
        CHECK.due("ahead of the first", hall.where(0, -1), NONE);
        CHECK.due("the first", hall.where(0, 0), 44);
        for (int what = 0; what < 4; what++) {
            CHECK.due("count(201, " + what + ")", hall.count(201, what), NONE);
            CHECK.due("count(-1, " + what + ")", hall.count(-1, what), NONE);
        }
    }

    /** Three walk by in 12, 11 and 7 seconds, so that all are next to the guard at once in one second of 924. */
    private static void alarmInTheLastSecond() {
        CHECK.says("The ALARM is the first SECOND in which a GUARD does:");
        String text = "hall 9 2;guard g at 8 0 sees 1 looks 3;";
        StrokeHall hall = CHECK.fine(text + person("a", "6 0", "0", 0, "xxxxxxxewxxx passer")
            + person("b", "6 0", "0", 0, "xewxxxxxxxx passer") + person("c", "6 0", "0", 0, "xxxewxx passer"));
        CHECK.due("the ALARM in the last SECOND", hall.whole(0), 200);
        CHECK.due("the GUARD", hall.whole(1), 0);
        hall = CHECK.fine(text + person("a", "6 0", "0", 0, "xxxxxxxxewxx passer")
            + person("b", "6 0", "0", 0, "xxewxxxxxxx passer") + person("c", "6 0", "0", 0, "xxxxewx passer"));
        CHECK.due("behind the last SECOND: none", hall.whole(0), NONE);
        CHECK.due("no GUARD", hall.whole(1), NONE);
        // Seen in 3, 6, 9, ..: the first counts.
        hall = CHECK.fine("hall 9 2;guard g at 8 0 sees 1 looks 1;" + person("a", "6 0", "0", 0, "xxewxe"));
        CHECK.due("the first", hall.whole(0), 3);
    }

    private static void secondNought() {
        CHECK.says("PEOPLE who come are in their CELLS in SECOND 0.");
        StrokeHall hall = CHECK.fine("hall 3 2;stroke 1;" + person("a", "1 1", "-60", 0, "e")
            + person("b", "2 0", "60", 0, "w") + person("c", "0 0", "0", 0, "e passer"));
        cells(hall, 0, 0, 4, 4, 4);
        cells(hall, 1, 0, 2, 1, 0, 0);
        cells(hall, 2, 0, 0, 1, 2, 2);
        counts(hall, 0, 0, 3, 0, 0);
        CHECK.says("In SECOND 0 nobody is OPEN.");
        opens(hall, 0, 1, 1);
        counts(hall, 1, 1, 2, 0, 0);
        hall = CHECK.fine("hall 3 2;stroke 60;" + person("a", "1 1", "-60", 0, "e"));
        opens(hall, 0, 1, 1);
        CHECK.due("nobody in 0", hall.count(0, 0), 0);
    }

    private static void allAtOnce() {
        CHECK.says("all at once by what was in the one ahead:");
        String rest = "stroke 3;open 9;";
        String a = person("a", "0 0", "0", 0, "x");
        String b = person("b", "1 0", "60", 1, "x");
        String c = person("c", "2 0", "60", 1, "x");
        StrokeHall hall = CHECK.fine("hall 9 2;" + a + b + c + rest);
        opens(hall, 0, 3, 1);
        opens(hall, 1, 4, 2);
        opens(hall, 2, 5, 2);
        hall = CHECK.fine("hall 9 2;" + c + b + a + rest);
        opens(hall, 2, 3, 1);
        opens(hall, 1, 4, 2);
        opens(hall, 0, 5, 2);
        // Who is open in one second alone is seen in the second behind it, whoever stands first in the text.
        for (String text : new String[] {"hall 9 2;" + a + b + c, "hall 9 2;" + c + b + a}) {
            hall = CHECK.fine(text + "stroke 3;open 1;");
            int first = text.indexOf("person a") < text.indexOf("person c") ? 0 : 2;
            opens(hall, first, 3, 1);
            opens(hall, 1, 4, 2);
            opens(hall, 2 - first, 5, 2);
            counts(hall, 4, 1, 1, 1, 0);
        }
        // Each by where he was in the second ahead: in 3 b is next to a, who opens in 3; in 4 he would be by.
        hall = CHECK.fine("hall 9 2;" + a + person("b", "4 0", "60", 1, "www") + rest);
        opens(hall, 1, 4, 2);
        cells(hall, 1, 2, 2, 1, 1, 1);
        // Here he would be next to a in 4 alone, when a is open no more.
        hall = CHECK.fine("hall 9 2;stroke 3;open 1;" + person("a", "4 0", "0", 0, "x")
            + person("b", "1 0", "60", 1, "exxex"));
        cells(hall, 1, 2, 2, 2, 3);
        opens(hall, 1, 63, 1);
    }

    private static void overAndOver() {
        CHECK.says("one who WAITS makes a step, letter by letter of STEPS, over and over:");
        StrokeHall hall = CHECK.fine("hall 9 2;stroke 99;" + person("a", "0 0", "60", 0, "e")
            + person("b", "0 1", "60", 0, "eeeewwwwxxxe") + person("c", "0 0", "60", 0, "esw")
            + person("d", "8 1", "60", 0, "nwsxxxxxxxx"));
        cells(hall, 0, 0, 0, 1, 2, 3, 4, 5, 6, 7, 8, 8, 8);
        cells(hall, 1, 0, 9, 10, 11, 12, 13, 12, 11, 10, 9, 9, 9, 9, 10, 11, 12, 13, 14, 13);
        cells(hall, 2, 0, 0, 1, 10, 9, 10, 10, 9, 10, 10, 9);
        cells(hall, 3, 0, 17, 8, 7, 16, 16, 16, 16, 16, 16, 16, 16, 16, 7, 6, 15);
        // 144 is 12 times 12: with each round b is one cell farther, until the border keeps him.
        CHECK.due("b behind 48 steps", hall.where(1, 48), 13);
        CHECK.due("d behind 22 steps", hall.where(3, 22), 15);
        CHECK.due("c behind 150 steps", hall.where(2, 150), 9);
    }

    private static void ways() {
        CHECK.says("n less down, e more across, s more down, w less across, x none;");
        StrokeHall hall = CHECK.fine("hall 3 3;" + person("a", "1 1", "0", 0, "n") + person("b", "1 1", "0", 0, "e")
            + person("c", "1 1", "0", 0, "s") + person("d", "1 1", "0", 0, "w") + person("f", "1 1", "0", 0, "x"));
        int[] due = {1, 5, 7, 3, 4};
        for (int p = 0; p < 5; p++) {
            cells(hall, p, 0, 4, due[p], due[p]);
        }
    }

    private static void offTheHall() {
        CHECK.says("off the hall, or into a wall, none (who is in the way counts for nothing).");
        String[] corners = {"0 0", "4 0", "0 2", "4 2"};
        String[] off = {"nw", "en", "ws", "se"};
        int[] cell = {0, 4, 10, 14};
        for (int k = 0; k < 4; k++) {
            StrokeHall hall = CHECK.fine("hall 5 3;" + person("a", corners[k], "0", 0, off[k]));
            cells(hall, 0, 0, cell[k], cell[k], cell[k], cell[k], cell[k]);
        }
        // A step that is none uses up its letter.
        StrokeHall used = CHECK.fine("hall 5 3;" + person("a", "0 0", "0", 0, "ne") + person("b", "4 2", "0", 0, "sw"));
        cells(used, 0, 0, 0, 0, 1, 1, 2);
        cells(used, 1, 0, 14, 14, 13, 13, 12);
        StrokeHall walled = CHECK.fine("hall 3 3;wall 1 0;wall 2 1;wall 1 2;wall 0 1;"
            + person("a", "1 1", "0", 0, "nesw") + person("b", "0 0", "0", 0, "es")
            + person("c", "2 2", "0", 0, "nw"));
        cells(walled, 0, 0, 4, 4, 4, 4, 4, 4);
        cells(walled, 1, 0, 0, 0, 0, 0);
        cells(walled, 2, 0, 8, 8, 8, 8);
        StrokeHall inTheWay = CHECK.fine("hall 4 2;" + person("a", "0 0", "0", 0, "e") + person("b", "1 0", "0", 0, "x")
            + person("c", "3 0", "0", 0, "w") + "guard g at 2 0 sees 1 looks 20;door 3 0;");
        cells(inTheWay, 0, 0, 0, 1, 2, 3);
        cells(inTheWay, 1, 0, 1, 1, 1);
        cells(inTheWay, 2, 0, 3, 2, 1, 0);
    }

    private static void byWatch() {
        CHECK.says("by his WATCH, if it is stroke and slow, or later, and he is no passer;");
        int[][] due = {{1, -60, 1}, {1, -1, 1}, {1, 0, 1}, {1, 1, 2}, {1, 60, 61}, {5, -5, 1}, {5, -4, 1}, {5, -3, 2},
            {60, -60, 1}, {61, -60, 1}, {62, -60, 2}, {99, -60, 39}, {99, 0, 99}, {99, 60, 159}};
        for (int[] n : due) {
            StrokeHall hall = CHECK.fine("hall 3 2;stroke " + n[0] + ";"
                + person("a", "0 0", n[1] < 0 ? "-" + -n[1] : "" + n[1], 0, "x"));
            opens(hall, 0, n[2], 1);
            counts(hall, n[2] - 1, 0, 1, 0, 0);
            counts(hall, n[2], 1, 0, 0, 0);
            hall = CHECK.fine("hall 3 2;stroke " + n[0] + ";"
                + person("a", "0 0", n[1] < 0 ? "-" + -n[1] : "" + n[1], 1, "x passer"));
            opens(hall, 0, NONE, 0);
            counts(hall, 200, 0, 1, 0, 0);
        }
        CHECK.says("One who WAITS OPENS in a SECOND (and makes no step in it):");
        StrokeHall hall = CHECK.fine("hall 9 2;stroke 4;" + person("a", "0 0", "0", 0, "e")
            + person("b", "8 1", "1", 0, "w"));
        cells(hall, 0, 0, 0, 1, 2, 3, 3, 3);
        cells(hall, 1, 0, 17, 16, 15, 14, 13, 13);
        // He is seen where he stands: a in 3 0, so that d in 2 0 sees him, and f in 5 0 does not.
        hall = CHECK.fine("hall 9 2;stroke 4;open 9;" + person("a", "0 0", "0", 0, "e")
            + person("d", "2 0", "0", 1, "x passer") + person("f", "5 0", "0", 1, "x passer"));
        cells(hall, 0, 3, 3, 3, 3);
        opens(hall, 1, 5, 2);
        opens(hall, 2, NONE, 0);
        hall.set(1, 2, 4);
        opens(hall, 1, 5, 2);
        opens(hall, 2, 6, 2);
        CHECK.says("else by SIGHT,");
        hall = CHECK.fine("hall 9 2;stroke 4;" + person("a", "0 0", "0", 0, "x") + person("b", "0 0", "1", 1, "x")
            + person("c", "0 0", "2", 1, "x"));
        opens(hall, 1, 5, 1);
        opens(hall, 2, 5, 2);
    }

    /** How one who dares opens beside so many who open in 3: by sight in 4, or never. */
    private static void sees(int dares, int many, boolean follows) {
        StringBuilder text = new StringBuilder("hall 9 2;stroke 3;open 9;");
        for (int k = 0; k < many; k++) {
            text.append(person("a" + (char) ('a' + k), "0 0", "0", 0, "x"));
        }
        StrokeHall hall = CHECK.fine(text + person("z", "0 0", "0", dares, "x passer"));
        CHECK.due("dares " + dares + ", sees " + many, hall.does(many, 0), follows ? 4 : NONE);
        CHECK.due("dares " + dares + ", by sight of " + many, hall.does(many, 2), follows ? 2 : 0);
        CHECK.due("passers who open", hall.whole(6), follows ? 1 : 0);
    }

    private static void bySight() {
        CHECK.says("if he dares (above 0) and so many, or more, were OPEN in the SECOND ahead");
        for (int many = 0; many <= 8; many++) {
            for (int dares = 0; dares <= 9; dares++) {
                sees(dares, many, dares > 0 && many >= dares);
            }
        }
        // Who only waits beside him is not open, and who is open no more, neither.
        StrokeHall hall = CHECK.fine("hall 9 2;stroke 3;open 2;" + person("a", "0 0", "0", 0, "x")
            + person("b", "0 0", "2", 0, "x") + person("z", "0 0", "60", 2, "x passer"));
        opens(hall, 2, NONE, 0);
        hall = CHECK.fine("hall 9 2;stroke 3;open 3;" + person("a", "0 0", "0", 0, "x")
            + person("b", "0 0", "2", 0, "x") + person("z", "0 0", "60", 2, "x passer"));
        opens(hall, 2, 6, 2);
        counts(hall, 5, 2, 1, 0, 0);
        counts(hall, 6, 2, 0, 1, 0);
    }

    private static void nearCells() {
        CHECK.says("in CELLS not farther from his than near (steps across and down, walls count for nothing).");
        for (int near = 1; near <= 5; near++) {
            for (int cell = 0; cell < 54; cell++) {
                int far = cell % 9 + cell / 9;
                StrokeHall hall = CHECK.fine("hall 9 6;stroke 3;near " + near + ";" + person("a", "0 0", "0", 0, "x")
                    + person("z", cell % 9 + " " + cell / 9, "0", 1, "x passer"));
                CHECK.due("near " + near + ", " + far + " off", hall.does(1, 0), far <= near ? 4 : NONE);
            }
        }
        StrokeHall walled = CHECK.fine("hall 9 6;wall 1 0;wall 0 1;wall 1 1;stroke 3;near 2;"
            + person("a", "0 0", "0", 0, "x") + person("y", "2 0", "0", 1, "x passer")
            + person("z", "0 2", "0", 1, "x passer"));
        opens(walled, 1, 4, 2);
        opens(walled, 2, 4, 2);
        StrokeHall upAndBack = CHECK.fine("hall 9 6;stroke 3;near 2;" + person("a", "4 3", "0", 0, "x")
            + person("y", "3 2", "0", 1, "x passer") + person("z", "5 1", "0", 1, "x passer"));
        opens(upAndBack, 1, 4, 2);
        opens(upAndBack, 2, NONE, 0);
    }

    private static void openFor() {
        CHECK.says("He stays there, and is OPEN for as many SECONDS as told (open);");
        for (int open : new int[] {1, 2, 29, 30}) {
            StrokeHall hall = CHECK.fine("hall 9 2;stroke 10;open " + open + ";door 8 0;"
                + person("a", "0 0", "0", 0, "xxxxe"));
            counts(hall, 9, 0, 1, 0, 0);
            counts(hall, 10, 1, 0, 0, 0);
            counts(hall, 10 + open - 1, 1, 0, 0, 0);
            counts(hall, 10 + open, 0, 0, 1, 0);
            cells(hall, 0, 9, 1, 1);
            cells(hall, 0, 10 + open - 1, 1, 2, 3, 4, 5, 6, 7, 8, NONE, NONE);
        }
        StrokeHall late = CHECK.fine("hall 9 2;stroke 99;open 30;" + person("a", "0 0", "60", 0, "x"));
        counts(late, 188, 1, 0, 0, 0);
        counts(late, 189, 0, 0, 1, 0);
        counts(late, 200, 0, 0, 1, 0);
    }

    private static void atTheDoor() {
        CHECK.says("then he GOES: in each SECOND from the one on in which he is not OPEN any more: if he was in "
            + "the CELL of a DOOR in the one ahead, he is OUT;");
        StrokeHall hall = CHECK.fine("hall 9 2;stroke 3;open 2;door 4 0;door 0 0;" + person("a", "0 0", "0", 0, "x")
            + person("b", "5 0", "0", 0, "x") + person("c", "4 0", "60", 0, "x"));
        cells(hall, 0, 2, 0, 0, 0, NONE, NONE);
        CHECK.due("at once", hall.does(0, 1), 5);
        CHECK.due("by his DOOR", hall.does(0, 3), 1);
        cells(hall, 1, 4, 5, 4, NONE);
        CHECK.due("one step off", hall.does(1, 1), 6);
        counts(hall, 4, 2, 1, 0, 0);
        counts(hall, 5, 0, 1, 1, 1);
        counts(hall, 6, 0, 1, 0, 2);
        CHECK.due("who waits in a DOOR stays", hall.where(2, 62), 4);
        CHECK.due("until he goes", hall.does(2, 1), 65);
        CHECK.due("by it two", hall.door(0, 2), 2);
        CHECK.due("the last of them", hall.door(0, 3), 65);
    }

    private static void firstOfTheWays() {
        CHECK.says("else he makes a step by n, e, s, w, the first of these that brings him nearer to the nearest "
            + "DOOR");
        String[][] due = {{"door 2 0;", "1"}, {"door 0 0;", "1"}, {"door 2 2;", "5"}, {"door 0 2;", "7"},
            {"door 1 2;door 1 0;", "1"}, {"door 0 1;door 2 1;", "5"}, {"door 0 1;door 1 2;", "7"},
            {"door 2 1;door 1 0;", "1"}, {"door 1 2;door 2 1;", "5"}, {"door 0 1;door 1 0;", "1"},
            {"door 1 0;door 2 1;door 1 2;door 0 1;", "1"}, {"door 2 1;door 1 2;door 0 1;", "5"},
            {"door 1 2;", "7"}, {"door 0 1;", "3"}, {"door 1 0;", "1"}, {"door 2 1;", "5"}};
        for (String[] one : due) {
            StrokeHall hall = CHECK.fine("hall 3 3;stroke 1;open 1;" + one[0] + person("a", "1 1", "0", 0, "x"));
            cells(hall, 0, 1, 4, Integer.parseInt(one[1]));
        }
    }

    private static void nearestDoor() {
        CHECK.says("(by steps without walls).");
        // 1 2 is two cells off, but four steps with the wall; 4 0 is three steps off.
        String text = "hall 5 3;stroke 1;open 1;door 1 2;door 4 0;" + person("a", "1 0", "0", 0, "x");
        cells(CHECK.fine(text), 0, 1, 1, 6, 11, NONE);
        cells(CHECK.fine(text + "wall 1 1;"), 0, 1, 1, 2, 3, 4, NONE);
        // A way round: from 0 0 the wall leaves only the long way to the door beside him.
        String round = "hall 3 3;stroke 1;open 1;door 2 0;wall 1 0;wall 1 1;" + person("a", "0 0", "0", 0, "x");
        cells(CHECK.fine(round), 0, 1, 0, 3, 6, 7, 8, 5, 2, NONE);
        // In a hall of 54 cells the way from one corner to the other.
        StrokeHall wide = CHECK.fine("hall 9 6;stroke 1;open 1;door 8 5;" + person("a", "0 0", "0", 0, "x"));
        cells(wide, 0, 1, 0, 1, 2, 3, 4, 5, 6, 7, 8, 17, 26, 35, 44, 53, NONE);
    }

    private static void cantReach() {
        CHECK.says("Who can't reach one stays.");
        String[] texts = {"hall 3 3;", "hall 3 3;wall 1 0;wall 1 1;wall 0 1;door 2 2;",
            "hall 3 3;wall 1 0;wall 0 1;door 1 1;"};
        for (String text : texts) {
            StrokeHall hall = CHECK.fine(text + "stroke 1;open 1;" + person("a", "0 0", "0", 0, "x"));
            cells(hall, 0, 1, 0, 0, 0, 0);
            CHECK.due("stays", hall.where(0, 200), 0);
            counts(hall, 200, 0, 0, 1, 0);
            CHECK.due("never OUT", hall.does(0, 1), NONE);
        }
        StrokeHall hall = CHECK.fine("hall 3 3;door 2 2;stroke 1;open 1;" + person("a", "0 0", "0", 0, "x"));
        CHECK.due("with the DOOR", hall.does(0, 1), 6);
        hall.close(0, true);
        CHECK.due("all are closed", hall.does(0, 1), NONE);
        CHECK.due("all are closed: he stays", hall.where(0, 200), 0);
    }

    private static void looksUp() {
        CHECK.says("if as many who WAIT (passers, too), or more, as he looks at are in CELLS not farther from his "
            + "than he sees,");
        for (int looks = 1; looks <= 20; looks++) {
            for (int many = 0; many <= 9; many++) {
                StringBuilder text = new StringBuilder("hall 9 2;guard g at 8 1 sees 1 looks " + looks + ";");
                for (int k = 0; k < many; k++) {
                    text.append(person("a" + (char) ('a' + k), "8 0", "0", 0, k % 2 == 0 ? "x passer" : "x"));
                }
                CHECK.due("looks " + looks + " at " + many, CHECK.fine(text.toString()).whole(0),
                    many >= looks ? 0 : NONE);
            }
        }
        for (int sees = 1; sees <= 9; sees++) {
            for (int cell = 0; cell < 54; cell++) {
                int far = cell % 9 + cell / 9;
                StrokeHall hall = CHECK.fine("hall 9 6;guard g at 0 0 sees " + sees + " looks 1;"
                    + person("a", cell % 9 + " " + cell / 9, "0", 0, "x passer"));
                CHECK.due("sees " + sees + ", " + far + " off", hall.whole(0), far <= sees ? 0 : NONE);
            }
        }
        StrokeHall walled = CHECK.fine("hall 5 2;wall 1 0;wall 0 1;guard g at 0 0 sees 2 looks 1;"
            + person("a", "2 0", "0", 0, "x"));
        CHECK.due("over a wall", walled.whole(0), 0);
        StrokeHall two = CHECK.fine("hall 5 2;guard g at 0 0 sees 1 looks 2;" + person("a", "0 0", "0", 0, "x")
            + person("b", "1 0", "0", 0, "x"));
        CHECK.due("both come", two.whole(0), 0);
        two.come(2);
        CHECK.due("one does not come", two.whole(0), NONE);
        // He sees where they are in that second, not in the one ahead: b is two off in 0, beside him in 1.
        StrokeHall walks = CHECK.fine("hall 5 2;guard g at 0 0 sees 1 looks 1;" + person("a", "2 0", "0", 0, "w"));
        CHECK.due("in that SECOND", walks.whole(0), 1);
    }

    private static void looksUpAhead() {
        CHECK.says("and nobody OPENED in it or ahead.");
        // a is beside the guard from 7 on; b opens far off.
        String text = "hall 9 2;open 1;door 0 1;guard g at 8 0 sees 1 looks 1;" + person("a", "0 0", "60", 0, "e")
            + person("b", "0 1", "0", 0, "x");
        int[][] due = {{1, NONE}, {5, NONE}, {6, NONE}, {7, NONE}, {8, 7}, {9, 7}, {99, 7}};
        for (int[] n : due) {
            StrokeHall hall = CHECK.fine(text + "stroke " + n[0] + ";");
            CHECK.due("the ALARM, stroke " + n[0], hall.whole(0), n[1]);
            CHECK.due("the GUARD, stroke " + n[0], hall.whole(1), n[1] == NONE ? NONE : 0);
            opens(hall, 1, n[1] == NONE ? n[0] : NONE, n[1] == NONE ? 1 : 0);
        }
        // Who comes not opens nothing: then the guard looks up.
        StrokeHall hall = CHECK.fine(text + "stroke 5;");
        hall.come(1);
        CHECK.due("without b", hall.whole(0), 7);
    }

    private static void behindTheAlarm() {
        CHECK.says("in all SECONDS behind it DOORS are SHUT (nobody gets OUT; they go there as before), and "
            + "nobody OPENS by his WATCH.");
        StrokeHall hall = CHECK.fine("hall 9 2;stroke 8;open 1;door 0 1;guard g at 8 0 sees 1 looks 1;"
            + person("a", "0 0", "60", 1, "e") + person("b", "0 1", "0", 0, "x") + person("c", "0 1", "-1", 0, "x")
            + person("d", "0 1", "60", 1, "x passer"));
        CHECK.due("c opens in 7, a would be seen in 7", hall.whole(0), NONE);
        opens(hall, 2, 7, 1);
        hall.set(2, 0, 60);
        CHECK.due("the ALARM in 7", hall.whole(0), 7);
        for (int p = 0; p < 4; p++) {
            opens(hall, p, NONE, 0);
        }
        counts(hall, 200, 0, 4, 0, 0);
        CHECK.due("nobody OUT", hall.whole(7), NONE);
        CHECK.due("walks on behind it", hall.where(0, 8), 8);
        CHECK.due("it does not COME OFF", hall.whole(4), 0);
    }

    private static void comesOff() {
        CHECK.says("IT COMES OFF, if in some SECOND as many are OPEN as is enough, or more.");
        for (int enough = 1; enough <= 9; enough++) {
            for (int many = 0; many <= 9; many++) {
                StringBuilder text = new StringBuilder("hall 9 2;stroke 3;open 1;enough " + enough + ";");
                for (int k = 0; k < many; k++) {
                    text.append(person("a" + (char) ('a' + k), "0 0", "0", 0, "x"));
                }
                StrokeHall hall = CHECK.fine(text.toString());
                CHECK.due("enough " + enough + " of " + many, hall.whole(4), many >= enough ? 1 : 0);
                CHECK.due("the first SECOND, enough " + enough + " of " + many, hall.whole(5),
                    many >= enough ? 3 : NONE);
                CHECK.due("ODDS, enough " + enough + " of " + many, hall.odds(), many >= enough ? 1000 : 0);
            }
        }
        // Two who open one behind the other are at once, if the first is open long enough.
        String text = "hall 9 2;stroke 3;enough 2;" + person("a", "0 0", "0", 0, "x") + person("b", "8 0", "4", 0, "x");
        CHECK.due("open 4", CHECK.fine(text + "open 4;").whole(4), 0);
        CHECK.due("open 5", CHECK.fine(text + "open 5;").whole(4), 1);
        CHECK.due("open 5, in", CHECK.fine(text + "open 5;").whole(5), 7);
    }

    private static void peak() {
        CHECK.says("PEAK: the SECOND in which the most are (the first of like ones).");
        String a = person("a", "0 0", "0", 0, "x");
        String b = person("b", "8 0", "9", 0, "x");
        String c = person("c", "8 1", "9", 0, "x");
        StrokeHall hall = CHECK.fine("hall 9 2;stroke 3;open 2;" + a + b);
        CHECK.due("the first of like ones", hall.whole(2), 3);
        CHECK.due("how many then", hall.whole(3), 1);
        hall = CHECK.fine("hall 9 2;stroke 3;open 2;" + a + b + c);
        CHECK.due("the most", hall.whole(2), 12);
        CHECK.due("how many are the most", hall.whole(3), 2);
        hall.come(0);
        CHECK.due("nobody", hall.whole(2), 0);
        CHECK.due("how many of nobody", hall.whole(3), 0);
        hall = CHECK.fine("hall 9 2;stroke 1;open 1;" + a);
        CHECK.due("in SECOND 1", hall.whole(2), 1);
        hall = CHECK.fine("hall 9 2;stroke 99;open 30;" + person("a", "0 0", "60", 0, "x"));
        CHECK.due("in SECOND 159", hall.whole(2), 159);
    }

    private static void whoComes() {
        CHECK.says("who comes of the PEOPLE (passers, too): all, or as is said.");
        StrokeHall hall = CHECK.fine("hall 9 2;stroke 3;enough 1;" + person("a", "0 0", "0", 0, "x")
            + person("b", "0 0", "0", 1, "x passer") + person("c", "0 0", "60", 2, "x"));
        CHECK.due("all", hall.hall(11), 7);
        counts(hall, 5, 3, 0, 0, 0);
        hall.come(5);
        counts(hall, 5, 1, 1, 0, 0);
        CHECK.due("the passer is away", hall.where(1, 0), NONE);
        CHECK.due("the passer does nothing", hall.does(1, 2), NONE);
        CHECK.due("passers who open", hall.whole(6), 0);
        hall.come(2);
        counts(hall, 5, 0, 1, 0, 0);
        CHECK.due("a passer alone never opens", hall.does(1, 0), NONE);
        CHECK.due("a passer alone never opens: how", hall.does(1, 2), 0);
    }

    private static void closedDoor() {
        CHECK.says("ACTS: a watch, daring, a CELL of one of the PEOPLE are others; a DOOR is closed, or not (as "
            + "if it were none; it is no wall).");
        StrokeHall hall = CHECK.fine("hall 5 2;stroke 3;open 1;door 2 0;door 4 0;wall 2 1;"
            + person("a", "0 0", "0", 0, "x") + person("b", "2 0", "0", 0, "x") + person("c", "0 0", "9", 0, "e"));
        CHECK.due("a", hall.does(0, 3), 0);
        CHECK.due("b", hall.does(1, 3), 0);
        hall.close(0, true);
        cells(hall, 0, 3, 0, 1, 2, 3, 4, NONE);
        CHECK.due("a goes through it to the other", hall.does(0, 3), 1);
        cells(hall, 1, 3, 2, 3, 4, NONE);
        CHECK.due("b goes out of it to the other", hall.does(1, 3), 1);
        cells(hall, 2, 0, 0, 1, 2, 3, 4);
        hall.close(0, false);
        CHECK.due("a again", hall.does(0, 1), 6);
        hall.close(1, true);
        CHECK.due("c turns back to the first", hall.does(2, 3), 0);
        hall.close(0, true);
        CHECK.due("none is left", hall.whole(7), NONE);
        CHECK.due("one's CELL may be a closed DOOR's", hall.set(2, 2, 4), 0);
    }
}
