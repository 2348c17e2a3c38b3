/** Term I: each sentence that names a bound of a hall's text, with what stands on the bound and what is beyond it. */
public final class EdgesOfHallTest {
    private static final String REST = " slow 0 dares 0 comes 0 walks x";
    private static final String OWN = "hall wall door person at slow dares comes walks passer guard sees looks stroke "
        + "open near enough";
    private static final Check CHECK = new Check("EdgesOfHallTest");

    public static void main(String[] args) {
        statements();
        sizes();
        walls();
        doors();
        people();
        guards();
        rules();
        cells();
        steps();
        names();
        numbers();
        blanks();
        firstByte();
        wordsMissing();
        endsTooSoon();
        cantBe();
        thereAlready();
        tooMany();
        firstAlong();
        CHECK.finish();
    }

    private static StrokeHall takes(String text, int statements) {
        StrokeHall hall = new StrokeHall();
        Check.tape(hall, text);
        CHECK.due("text() of " + text, hall.text(), statements);
        CHECK.due("fault(0) of " + text, hall.fault(0), 0);
        CHECK.due("fault(1) of " + text, hall.fault(1), StrokeHall.NONE);
        return hall;
    }

    private static void fault(int kind, String marked) {
        CHECK.textFault(kind, marked);
    }

    private static String person(String name, String cell) {
        return "person " + name + " at " + cell + REST + ";";
    }

    private static String guard(String name, String cell) {
        return "guard " + name + " at " + cell + " sees 1 looks 1;";
    }

    private static void statements() {
        CHECK.says("{ STATEMENT ; } (70 at most)");
        String seventy = "hall 2 2;" + "near 1;".repeat(69);
        takes("hall 2 2;", 1);
        takes(seventy, 70);
        fault(5, seventy + "^near 1;");
        CHECK.says("a 71st STATEMENT (whatever stands there), at its first byte");
        for (String any : "x ; 9 12345 hall near wall 1x - \u00ff \u0000 \t near;".split(" ")) {
            fault(5, seventy + "^" + any);
            fault(5, seventy + " \n ^" + any);
        }
        takes(seventy + " \n \n", 70);
        fault(1, "hall 2 2;" + "near 1;".repeat(68) + "^x");
        fault(1, "hall 2 2;" + "near 1;".repeat(68) + "near 1^");
    }

    private static void sizes() {
        CHECK.says("hall N N (WIDE, HIGH, 2 .. 9 and 2 .. 6;");
        for (int wide = 2; wide <= 9; wide++) {
            for (int high = 2; high <= 6; high++) {
                StrokeHall hall = takes("hall " + wide + " " + high + ";", 1);
                CHECK.due("WIDE", hall.hall(0), wide);
                CHECK.due("HIGH", hall.hall(1), high);
            }
        }
        for (String no : new String[] {"0", "1", "10", "99", "9999"}) {
            fault(2, "hall ^" + no + " 2;");
        }
        for (String no : new String[] {"0", "1", "7", "9", "10", "9999"}) {
            fault(2, "hall 2 ^" + no + ";");
        }
        CHECK.says("the first STATEMENT, and it alone)");
        for (String other : new String[] {"wall 0 0", "door 0 0", "person a", "guard a", "stroke 1", "open 1",
            "near 1", "enough 1"}) {
            fault(1, "^" + other + ";hall 2 2;");
        }
        fault(1, "hall 2 2;^hall 2 2;");
        fault(1, "hall 2 2;near 1;^hall 2 2;");
        for (String own : "at slow dares comes walks passer sees looks".split(" ")) {
            fault(1, "^" + own + " 0 0;");
            fault(1, "hall 2 2;^" + own + " 0 0;");
        }
    }

    private static void walls() {
        CHECK.says("wall CELL (not a DOOR's, not one of PEOPLE, GUARDS;");
        fault(2, "hall 3 2;door 1 1;wall 1 ^1;");
        fault(2, "hall 3 2;" + person("a", "2 1") + "wall 2 ^1;");
        fault(2, "hall 3 2;" + person("a", "0 0") + person("b", "2 1") + "wall 2 ^1;");
        fault(2, "hall 3 2;" + guard("g", "0 1") + "wall 0 ^1;");
        fault(2, "hall 3 2;" + guard("g", "0 0") + guard("h", "0 1") + "wall 0 ^1;");
        takes("hall 3 2;door 1 1;" + person("a", "2 1") + guard("g", "0 1") + "wall 0 0;wall 1 0;wall 2 0;", 7);
        CHECK.says("one that is a wall already, too; 15 told)");
        CHECK.due("one wall, told twice", takes("hall 2 2;wall 1 0;wall 1 0;", 3).hall(2), 1);
        CHECK.due("one wall, told 15 times", takes("hall 2 2;" + "wall 1 0;".repeat(15), 16).hall(2), 1);
        fault(5, "hall 2 2;" + "wall 1 0;".repeat(15) + "^wall 1 0;");
        fault(5, "hall 2 2;" + "wall 1 0;".repeat(15) + "^wall 0 0;");
        StringBuilder many = new StringBuilder("hall 9 6;");
        for (int k = 0; k < 15; k++) {
            many.append("wall ").append(k % 9).append(' ').append(k / 9).append(';');
        }
        CHECK.due("15 walls", takes(many.toString(), 16).hall(2), 15);
        fault(5, many + "^wall 8 5;");
    }

    private static void doors() {
        CHECK.says("door CELL (no wall, no DOOR; 6 DOORS)");
        fault(2, "hall 3 2;wall 2 1;door 2 ^1;");
        fault(2, "hall 3 2;door 2 1;door 2 ^1;");
        fault(2, "hall 3 2;door 2 1;door 0 0;door 2 ^1;");
        takes("hall 3 2;" + person("a", "2 1") + guard("g", "0 1") + "door 2 1;door 0 1;", 5);
        takes("hall 3 2;door 2 1;door 0 1;" + person("a", "2 1") + guard("g", "0 1"), 5);
        String six = "hall 9 2;door 0 0;door 1 0;door 2 0;door 3 0;door 4 0;door 5 0;";
        StrokeHall hall = takes(six, 7);
        CHECK.due("DOORS", hall.hall(3), 6);
        CHECK.due("the last DOOR's CELL", hall.door(5, 0), 5);
        fault(5, six + "^door 6 0;");
        fault(5, six + "^door 5 0;");
    }

    private static String personWith(String slow, String dares, String comes, String sort) {
        return "hall 2 2;person a at 0 0 slow " + slow + " dares " + dares + " comes " + comes + " walks x" + sort
            + ";";
    }

    private static void people() {
        CHECK.says("(no wall; slow: N, or - N, 60 at most, how many seconds his watch is behind, or ahead;");
        fault(2, "hall 3 2;wall 2 1;person a at 2 ^1" + REST + ";");
        takes("hall 3 2;door 2 1;" + guard("g", "2 1") + person("a", "2 1") + person("b", "2 1"), 5);
        CHECK.due("slow 0", takes(personWith("0", "0", "0", ""), 2).person(0, 1), 60);
        CHECK.due("slow - 0", takes(personWith("- 0", "0", "0", ""), 2).person(0, 1), 60);
        CHECK.due("slow 60", takes(personWith("60", "0", "0", ""), 2).person(0, 1), 120);
        CHECK.due("slow 1", takes(personWith("1", "0", "0", ""), 2).person(0, 1), 61);
        CHECK.due("slow -60", takes(personWith("-60", "0", "0", ""), 2).person(0, 1), 0);
        CHECK.due("slow - 1", takes(personWith("- 1", "0", "0", ""), 2).person(0, 1), 59);
        fault(2, personWith("^61", "0", "0", ""));
        fault(2, personWith("^-61", "0", "0", ""));
        fault(2, personWith("^9999", "0", "0", ""));
        fault(2, personWith("^- 9999", "0", "0", ""));
        CHECK.says("0 .. 9; 0 .. 4; the SORT passer, once at most; 9 PEOPLE)");
        for (int n = 0; n <= 9; n++) {
            CHECK.due("dares " + n, takes(personWith("0", n + "", "0", ""), 2).person(0, 2), n);
        }
        fault(2, personWith("0", "^10", "0", ""));
        for (int n = 0; n <= 4; n++) {
            CHECK.due("comes " + n, takes(personWith("0", "0", n + "", ""), 2).person(0, 3), n);
        }
        fault(2, personWith("0", "0", "^5", ""));
        CHECK.due("no passer", takes(personWith("0", "0", "0", ""), 2).person(0, 4), 0);
        CHECK.due("a passer", takes(personWith("0", "0", "0", " passer"), 2).person(0, 4), 1);
        fault(1, personWith("0", "0", "0", " passer ^passer"));
        fault(1, personWith("0", "0", "0", " passer passer").replace("passer passer", "passer ^passer passer"));
        StringBuilder nine = new StringBuilder("hall 2 2;");
        for (int k = 0; k < 9; k++) {
            nine.append(person("" + (char) ('a' + k), "1 1"));
        }
        CHECK.due("PEOPLE", takes(nine.toString(), 10).hall(5), 9);
        fault(5, nine + "^person j at 0 0;");
    }

    private static void guards() {
        CHECK.says("guard NAME at CELL sees N looks N (no wall; 1 .. 9, 1 .. 20; 4 GUARDS)");
        fault(2, "hall 3 2;wall 2 1;guard a at 2 ^1 sees 1 looks 1;");
        for (int n = 1; n <= 9; n++) {
            CHECK.due("sees " + n, takes("hall 2 2;guard a at 0 0 sees " + n + " looks 1;", 2).guard(0, 1), n);
        }
        for (int n = 1; n <= 20; n++) {
            CHECK.due("looks " + n, takes("hall 2 2;guard a at 0 0 sees 1 looks " + n + ";", 2).guard(0, 2), n);
        }
        fault(2, "hall 2 2;guard a at 0 0 sees ^0 looks 1;");
        fault(2, "hall 2 2;guard a at 0 0 sees ^10 looks 1;");
        fault(2, "hall 2 2;guard a at 0 0 sees 1 looks ^0;");
        fault(2, "hall 2 2;guard a at 0 0 sees 1 looks ^21;");
        String four = "hall 3 2;" + guard("a", "0 0") + guard("b", "0 0") + guard("c", "1 0") + guard("d", "2 1");
        StrokeHall hall = takes(four, 5);
        CHECK.due("GUARDS", hall.hall(6), 4);
        CHECK.due("the last GUARD's CELL", hall.guard(3, 0), 5);
        fault(5, four + "^guard e at 0 0;");
    }

    private static void rules() {
        CHECK.says("stroke N (1 .. 99), open N (1 .. 30), near N (1 .. 5), enough N (1 .. 9): the last one of "
            + "each counts (60, 20, 1, 3 without).");
        String[] words = {"stroke", "open", "near", "enough"};
        int[] most = {99, 30, 5, 9};
        int[] without = {60, 20, 1, 3};
        for (int k = 0; k < 4; k++) {
            for (int n = 1; n <= most[k]; n++) {
                StrokeHall hall = takes("hall 2 2;" + words[k] + " " + n + ";", 2);
                for (int i = 0; i < 4; i++) {
                    CHECK.due(words[i] + " of " + words[k] + " " + n, hall.hall(7 + i), i == k ? n : without[i]);
                }
            }
            fault(2, "hall 2 2;" + words[k] + " ^0;");
            fault(2, "hall 2 2;" + words[k] + " ^" + (most[k] + 1) + ";");
            String twice = "hall 2 2;" + words[k] + " 1;" + words[k] + " " + most[k] + ";near 1;" + words[k] + " 2;";
            CHECK.due("the last of " + twice, takes(twice, 5).hall(7 + k), 2);
        }
        StrokeHall bare = takes("hall 2 2;", 1);
        for (int i = 0; i < 4; i++) {
            CHECK.due(words[i] + " without", bare.hall(7 + i), without[i]);
        }
        // The last near counts for those who were told ahead of it, too.
        StrokeHall hall = takes("hall 9 2;near 5;person a at 0 0 slow 0 dares 0 comes 4 walks x;"
            + "person b at 2 0 slow 0 dares 1 comes 4 walks x passer;stroke 3;near 1;", 6);
        CHECK.due("near 1 is the last", hall.does(1, 0), StrokeHall.NONE);
    }

    private static void cells() {
        CHECK.says("CELL: N N, across below WIDE, down below HIGH; its number: down times WIDE, and across.");
        int[][] sizes = {{2, 6}, {9, 2}, {3, 4}, {9, 6}};
        for (int[] size : sizes) {
            for (int cell = 0; cell < size[0] * size[1]; cell++) {
                String told = cell % size[0] + " " + cell / size[0];
                StrokeHall hall = takes("hall " + size[0] + " " + size[1] + ";" + person("a", told) + guard("g", told)
                    + "door " + told + ";", 4);
                CHECK.due("one's CELL " + told, hall.person(0, 0), cell);
                CHECK.due("a GUARD's CELL " + told, hall.guard(0, 0), cell);
                CHECK.due("a DOOR's CELL " + told, hall.door(0, 0), cell);
            }
            String start = "hall " + size[0] + " " + size[1] + ";";
            for (String kind : new String[] {"wall ", "door ", "person a at ", "guard a at "}) {
                fault(2, start + kind + "^" + size[0] + " 0;");
                fault(2, start + kind + "0 ^" + size[1] + ";");
                fault(2, start + kind + (size[0] - 1) + " ^" + size[1] + ";");
                fault(2, start + kind + "^9999 9999;");
            }
            CHECK.due("a wall in the last CELL",
                takes(start + "wall " + (size[0] - 1) + " " + (size[1] - 1) + ";", 2).hall(2), 1);
        }
    }

    private static void steps() {
        CHECK.says("STEPS: 1 to 12 letters of n, e, s, w, x.");
        String start = "hall 2 2;person a at 0 0 slow 0 dares 0 comes 0 walks ";
        for (int n = 1; n <= 12; n++) {
            CHECK.due(n + " STEPS", takes(start + "neswxneswxnee".substring(0, n) + ";", 2).person(0, 5), n);
        }
        for (char c = 'a'; c <= 'z'; c++) {
            if ("neswx".indexOf(c) >= 0) {
                takes(start + c + ";", 2);
            } else {
                fault(1, start + "^" + c + ";");
                fault(1, start + "^neswxneswxn" + c + ";");
            }
        }
        CHECK.says("STEPS whole, at their first byte;");
        fault(1, start + "^neswxneswxnee;");
        fault(1, start + "^xxxxxxxxxxxxxxxxxxxxxxxx;");
        fault(1, start + "^xxxxxq;");
        fault(1, start + "^qxxxxx;");
        fault(1, start + "^N;");
        fault(1, start + "^;");
        fault(1, start + "^5;");
        fault(1, start + "^");
    }

    private static void names() {
        CHECK.says("NAMES: 1 to 6 letters, unlike ones (of PEOPLE and GUARDS), no OWN WORD: " + OWN.replace(" ", ", ")
            + ".");
        for (int n = 1; n <= 6; n++) {
            StrokeHall hall = takes("hall 2 2;" + person("zyxwvu".substring(0, n), "0 0")
                + guard("azazaz".substring(0, n), "0 0"), 3);
            for (int k = 0; k < 6; k++) {
                CHECK.due("letter " + k + " of " + n, hall.letter(0, 0, k), k < n ? 26 - k : 0);
                CHECK.due("a GUARD's letter " + k + " of " + n, hall.letter(1, 0, k), k >= n ? 0 : k % 2 == 0 ? 1 : 26);
            }
        }
        takes("hall 2 2;" + person("a", "0 0") + person("ab", "0 0") + person("aa", "0 0") + guard("b", "0 0")
            + guard("ba", "0 0") + guard("aaaaaa", "0 0") + person("aaaaa", "0 0") + person("aaaaab", "0 0"), 9);
        for (String near : ("halls wal doors a ats slo dare come walk passe guar see look stoke opens nears first last "
                + "often total most least or and not all second waits goes outs alarm does min max").split(" ")) {
            if (near.length() <= 6) {
                takes("hall 2 2;" + person(near, "0 0"), 2);
                takes("hall 2 2;" + guard(near, "0 0"), 2);
            }
        }
        CHECK.says("where a NAME is asked, an OWN WORD so, a 7th letter at itself;");
        for (String own : OWN.split(" ")) {
            fault(1, "hall 2 2;person ^" + own + " at 0 0" + REST + ";");
            fault(1, "hall 2 2;guard ^" + own + " at 0 0 sees 1 looks 1;");
        }
        fault(1, "hall 2 2;person abcdef^g at 0 0" + REST + ";");
        fault(1, "hall 2 2;guard abcdef^ghijklm at 0 0 sees 1 looks 1;");
        fault(1, "hall 2 2;person passer^s at 0 0" + REST + ";");
        fault(1, "hall 2 2;" + person("abcdef", "0 0") + "person abcdef^f at 0 0;");
        fault(1, "hall 2 2;person ^A at 0 0;");
        fault(1, "hall 2 2;person a^A at 0 0;");
        fault(1, "hall 2 2;person ^7 at 0 0;");
        fault(1, "hall 2 2;person ^at at 0 0;");
        fault(1, "hall 2 2;person ^` at 0 0;");
        fault(1, "hall 2 2;person ^{ at 0 0;");
    }

    private static void numbers() {
        CHECK.says("NUMBERS: 1 to 4 digits.");
        for (String two : new String[] {"2", "02", "002", "0002"}) {
            StrokeHall hall = takes("hall " + two + " " + two
                + ";person a at 0000 000 slow -0060 dares 0009 comes 0004 "
                + "walks x;guard g at 0001 0001 sees 0009 looks 0020;stroke 0099;", 4);
            CHECK.due("WIDE of " + two, hall.hall(0), 2);
            CHECK.due("HIGH of " + two, hall.hall(1), 2);
            CHECK.due("the stroke", hall.hall(7), 99);
        }
        CHECK.says("where a number is asked, a 5th digit at itself;");
        fault(1, "hall 0000^2 2;");
        fault(1, "hall 2 0000^2;");
        fault(1, "hall 9999^99999 2;");
        fault(1, "hall 2 2;wall 0000^0 0;");
        fault(1, "hall 2 2;wall 0 0000^0;");
        fault(1, "hall 2 2;stroke 0000^1;");
        fault(1, "hall 2 2;person a at 0 0 slow 0000^1 dares 0;");
        fault(1, "hall 2 2;person a at 0 0 slow -0000^1 dares 0;");
        fault(1, "hall 2 2;person a at 0 0 slow 0 dares 1234^5 comes 0;");
        fault(1, "hall 2 2;person a at 0 0 slow 0 dares 0 comes 0000^0 walks x;");
        fault(1, "hall 2 2;guard a at 0 0 sees 0000^1 looks 1;");
        fault(1, "hall 2 2;guard a at 0 0 sees 1 looks 0000^1;");
        fault(1, "hall 2 2 ^12345;");
    }

    private static void blanks() {
        CHECK.says("Blanks (10, 32) are where one likes (words and numbers side by side need one).");
        takes("hall 2 2;person a at 1 1 slow-1 dares 0 comes 0 walks x;wall 0 0;", 3);
        takes("\n hall \n 2 \n 2 \n ; \n person \n a \n at \n 1 \n 1 \n slow \n - \n 1 \n dares \n 0 \n comes \n 0 \n "
            + "walks \n x \n passer \n ; \n wall \n 0 \n 0 \n ; \n ", 3);
        takes("hall\n2\n2;wall\n0\n0;", 2);
        fault(1, "hall^2 2;");
        fault(1, "hall 2 2;wall^0 0;");
        fault(1, "hall 2 2;person a^1 at 0 0;");
        fault(1, "hall 2 2;person a at^0 0;");
        fault(1, "hall 2 2;person a at 0 0^slow 0;");
        fault(1, "hall 2 2;person a at 0 0 slow^0 dares 0;");
        fault(1, "hall 2 2;person a at 0 0 slow 0^dares 0;");
        fault(1, "hall 2 2;person a at 0 0 slow -0^dares 0;");
        fault(1, "hall 2 2;person a at 0 0 slow 0 dares 0 comes 0 walks x^0;");
        fault(1, "hall 2 2;guard a at 0 0^sees 1 looks 1;");
        fault(2, "hall ^22;");
        fault(1, "^hallx 2 2;");
        for (int octet = 0; octet < 256; octet++) {
            char c = (char) octet;
            if (octet == 10 || octet == 32) {
                takes("hall" + c + "2" + c + "2" + c + ";" + c, 1);
            } else if ((!Character.isLetterOrDigit(c) || octet > 127) && c != '^') {
                fault(1, "^" + c + "hall 2 2;");
                fault(1, "hall 2^" + c + "2;");
                fault(1, "hall 2 2;^" + c);
            }
        }
    }

    private static void firstByte() {
        CHECK.says("1 the first byte with which no such text goes on (words and numbers whole, at their first "
            + "byte;");
        fault(1, "^hal 2 2;");
        fault(1, "^halls 2 2;");
        fault(1, "^HALL 2 2;");
        fault(1, "^2 2;");
        fault(1, "^12345;");
        fault(1, "hall ^two 2;");
        fault(1, "hall ^-2 2;");
        fault(1, "hall 2 2 ^2;");
        fault(1, "hall 2 2 ^x;");
        fault(1, "hall 2^;");
        fault(1, "hall 2 2;^;");
        fault(1, "hall 2 2;^walls 0 0;");
        fault(1, "hall 2 2;^pass 0 0;");
        fault(1, "hall 2 2;^2;");
        fault(1, "hall 2 2;person a ^att 0 0;");
        fault(1, "hall 2 2;person a at 0 0 ^slo 0;");
        fault(1, "hall 2 2;person a at 0 0 ^comes 0;");
        fault(1, "hall 2 2;person a at 0 0 slow 0 ^dare 0;");
        fault(1, "hall 2 2;person a at 0 0 slow 0 dares 0 ^comess 0;");
        fault(1, "hall 2 2;person a at 0 0 slow 0 dares 0 comes 0 ^walk x;");
        fault(1, "hall 2 2;person a at 0 0 slow 0 dares 0 comes 0 walks x ^passers;");
        fault(1, "hall 2 2;person a at 0 0 slow - ^- 0;");
        fault(1, "hall 2 2;person a at 0 0 slow 0 ^- 0;");
        fault(1, "hall 2 2;person a at 0 0 slow 0 dares ^-0;");
        fault(1, "hall 2 2;person a at ^-0 0;");
        fault(1, "hall 2 2;person a at 0^, 0;");
        fault(1, "hall 2 2;guard a at 0 0 ^see 1;");
        fault(1, "hall 2 2;guard a at 0 0 sees 1 ^look 1;");
        fault(1, "hall 2 2;guard a at 0 0 sees 1 looks 1 ^passer;");
        fault(1, "hall 2 2;stroke ^-1;");
        fault(1, "hall 2 2;stroke 1 ^1;");
        CHECK.says("passer told again, at its first byte;");
        fault(1, "hall 2 2;person a at 0 0" + REST + " passer ^passer;");
        fault(1, "hall 2 2;person a at 0 0" + REST + " passer\n^passer");
    }

    /** What is asked does not come: the next word, or a ; too soon, is the first byte with which no text goes on. */
    private static void wordsMissing() {
        CHECK.says("1 the first byte with which no such text goes on");
        String[] statements = {"wall 1 0", "door 1 0", "person ann at 1 0 slow - 5 dares 1 comes 2 walks nesw",
            "person ann at 1 0 slow 5 dares 1 comes 2 walks nesw", "guard gus at 1 0 sees 3 looks 4", "stroke 50",
            "open 9", "near 2", "enough 4"};
        for (String one : statements) {
            for (int k = 0; k < one.length(); k++) {
                if (one.charAt(k) == ' ') {
                    fault(1, "hall 2 2;" + one.substring(0, k) + "^;");
                    fault(1, "hall 2 2;" + one.substring(0, k) + " ^; near 1;");
                    fault(1, "hall 2 2;" + one.substring(0, k) + " ^hall 2 2;");
                }
            }
            takes("hall 2 2;" + one + ";", 2);
            fault(1, "hall 2 2;" + one + "^.");
            fault(1, "hall 2 2;" + one + " ^hall;");
        }
        fault(1, "hall^;");
        fault(1, "hall 2^;");
        fault(1, "hall 2 2;wall 1 ^wall 1 0;");
        fault(1, "hall 2 2;person ^at 1 0 slow 0 dares 0 comes 0 walks x;");
        fault(1, "hall 2 2;person a ^1 0 slow 0 dares 0 comes 0 walks x;");
        fault(1, "hall 2 2;person a at 1 ^slow 0 dares 0 comes 0 walks x;");
        fault(1, "hall 2 2;person a at 1 0 ^0 dares 0 comes 0 walks x;");
        fault(1, "hall 2 2;person a at 1 0 ^dares 0 comes 0 walks x;");
        fault(1, "hall 2 2;person a at 1 0 slow ^dares 0 comes 0 walks x;");
        fault(1, "hall 2 2;person a at 1 0 slow - ^dares 0 comes 0 walks x;");
        fault(1, "hall 2 2;person a at 1 0 slow 0 ^0 comes 0 walks x;");
        fault(1, "hall 2 2;person a at 1 0 slow 0 ^comes 0 walks x;");
        fault(1, "hall 2 2;person a at 1 0 slow 0 dares ^comes 0 walks x;");
        fault(1, "hall 2 2;person a at 1 0 slow 0 dares 0 ^0 walks x;");
        fault(1, "hall 2 2;person a at 1 0 slow 0 dares 0 ^walks x;");
        fault(1, "hall 2 2;person a at 1 0 slow 0 dares 0 comes ^walks x;");
        fault(1, "hall 2 2;person a at 1 0 slow 0 dares 0 comes 0 ^x;");
        fault(1, "hall 2 2;person a at 1 0 slow 0 dares 0 comes 0 ^passer;");
        fault(1, "hall 2 2;person a at 1 0 slow 0 dares 0 comes 0 walks ^passer;");
        fault(1, "hall 2 2;guard ^at 1 0 sees 1 looks 1;");
        fault(1, "hall 2 2;guard a ^1 0 sees 1 looks 1;");
        fault(1, "hall 2 2;guard a at 1 ^sees 1 looks 1;");
        fault(1, "hall 2 2;guard a at 1 0 ^1 looks 1;");
        fault(1, "hall 2 2;guard a at 1 0 ^looks 1;");
        fault(1, "hall 2 2;guard a at 1 0 sees ^looks 1;");
        fault(1, "hall 2 2;guard a at 1 0 sees 1 ^1;");
    }

    /** Behind each of its words and signs the text may end: too soon, but behind a ; where it is a text. */
    private static void endsTooSoon() {
        CHECK.says("at the text's length, if it ends too soon)");
        String text = "hall 3 3 ; wall 0 0 ; door 1 0 ; person ann at 1 1 slow - 5 dares 1 comes 2 walks nesw passer ; "
            + "guard gus at 2 2 sees 3 looks 4 ; stroke 50 ; open 9 ; near 2 ; enough 4 ;";
        int statements = 0;
        for (int k = 0; k <= text.length(); k++) {
            boolean endOfWord = k == text.length() || text.charAt(k) == ' ';
            if (!endOfWord) {
                continue;
            }
            if (text.charAt(k - 1) == ';') {
                statements++;
                takes(text.substring(0, k), statements);
                takes(text.substring(0, k) + " \n", statements);
            } else {
                fault(1, text.substring(0, k) + "^");
                fault(1, text.substring(0, k) + " \n ^");
            }
        }
        CHECK.due("STATEMENTS", statements, 9);
        fault(1, "^");
        fault(1, " ^");
        fault(1, "\n".repeat(1600) + "^");
    }

    private static void cantBe() {
        CHECK.says("2 a number that can't be, at it (of slow at its -, if it has one; of a CELL that can't be "
            + "taken, the second one);");
        fault(2, "hall \n ^10 2;");
        fault(2, "hall 2 2;open ^0031;");
        fault(2, "hall 2 2;person a at 0 0 slow ^61 dares 0 comes 0 walks x;");
        fault(2, "hall 2 2;person a at 0 0 slow ^-61 dares 0 comes 0 walks x;");
        fault(2, "hall 2 2;person a at 0 0 slow ^- \n 61 dares 0 comes 0 walks x;");
        fault(2, "hall 2 2;wall 0 0;person a at 0 \n ^0 slow 0;");
        fault(2, "hall 2 2;wall 0 0;person a at 0 ^0;");
        fault(2, "hall 2 2;wall 0 0;guard a at 0 ^0;");
        fault(2, "hall 2 2;wall 0 0;door 0 ^0;");
        fault(2, "hall 2 2;door 0 0;wall 0 ^000;");
        fault(2, "hall 2 2;wall ^2 2;");
        fault(2, "hall 2 2;wall 1 ^2;");
    }

    private static void thereAlready() {
        CHECK.says("3 a NAME that is there already, at it;");
        String there = "hall 2 2;" + person("ann", "0 0") + person("abcdef", "0 0") + guard("gus", "0 0")
            + guard("g", "0 0");
        for (String name : "ann abcdef gus g".split(" ")) {
            fault(3, there + "person ^" + name + " at 0 0" + REST + ";");
            fault(3, there + "guard \n ^" + name + " at 0 0 sees 1 looks 1;");
            fault(3, there + "guard ^" + name);
        }
        takes(there + person("an", "0 0") + person("anna", "0 0") + person("abcdeg", "0 0") + guard("gu", "0 0"), 9);
        // A text that was refused has left no NAME, and a hall that is no more has none either.
        StrokeHall hall = takes(there, 5);
        Check.tape(hall, "hall 2 2;" + person("bob", "0 0") + "x");
        CHECK.due("a text with a fault", hall.text(), StrokeHall.NONE);
        Check.tape(hall, "hall 2 2;" + person("bob", "0 0") + person("ann", "0 0") + guard("gus", "0 0"));
        CHECK.due("the NAMES anew", hall.text(), 4);
    }

    private static void tooMany() {
        CHECK.says("5 one too many of a kind,");
        String walls = "hall 3 3;" + "wall 0 0;".repeat(15);
        String doors = "hall 3 3;door 0 0;door 1 0;door 2 0;door 0 1;door 1 1;door 2 1;";
        StringBuilder people = new StringBuilder("hall 3 3;");
        for (int k = 0; k < 9; k++) {
            people.append(person("p" + (char) ('a' + k), "0 0"));
        }
        String guards = "hall 3 3;" + guard("a", "0 0") + guard("b", "0 0") + guard("c", "0 0") + guard("d", "0 0");
        String[] full = {walls, doors, people.toString(), guards};
        String[] kinds = {"wall", "door", "person", "guard"};
        for (int k = 0; k < 4; k++) {
            for (int other = 0; other < 4; other++) {
                String one = new String[] {"wall 2 2;", "door 2 2;", person("new", "2 2"), guard("new", "2 2")}[other];
                if (other == k) {
                    fault(5, full[k] + "^" + one);
                } else {
                    fault(1, full[k] + one + "^x");
                }
            }
            fault(5, full[k] + " \n ^" + kinds[k]);
            fault(5, full[k] + "^" + kinds[k] + "5");
            fault(5, full[k] + "^" + kinds[k] + " ;");
        }
    }

    private static void firstAlong() {
        CHECK.says("FAULTS, the first along the text:");
        fault(2, "hall ^1 x;");
        fault(1, "hall ^x 1;");
        fault(2, "hall 2 2;wall ^2 x");
        fault(2, "hall 2 2;person a at 0 0 slow ^61 dares x");
        fault(3, "hall 2 2;" + person("a", "0 0") + "person ^a at 9 9;");
        fault(2, "hall 2 2;" + person("a", "0 0") + "person b at ^9 9;person a;");
        fault(5, "hall 2 2;" + "wall 0 0;".repeat(15) + "^wall 9 9;");
        fault(5, "hall 2 2;" + guard("a", "0 0") + guard("b", "0 0") + guard("c", "0 0") + guard("d", "0 0")
            + "^guard a at 9 9;");
        fault(1, "hall 2 2;" + "wall 0 0;".repeat(14) + "wall 0 0 ^x;wall 0 0;");
        fault(2, "hall 2 2;wall 0 0;door 0 ^0;x");
        fault(2, "hall 2 2;wall 0 0;person a at 0 ^0;near 1;");
    }
}
