/** Promises 4 and 5: text and fault, with the faults of a hall's text. */
public final class TextTest {
    private static final String PERSON = "slow 0 dares 0 comes 0 walks x";

    public static void main(String[] args) {
        Check check = new Check("TextTest");
        statements(check);
        words(check);
        blanks(check);
        numbers(check);
        cells(check);
        names(check);
        steps(check);
        ends(check);
        tooMany(check);
        stays(check);
        check.finish();
    }

    private static void takes(Check check, String text, int statements) {
        StrokeHall hall = new StrokeHall();
        Check.tape(hall, text);
        check.due("text() of " + text, hall.text(), statements);
        check.due("fault(0) of " + text, hall.fault(0), 0);
        check.due("fault(1) of " + text, hall.fault(1), StrokeHall.NONE);
        check.due("fault(2) of " + text, hall.fault(2), StrokeHall.NONE);
        check.due("fault(-1) of " + text, hall.fault(-1), StrokeHall.NONE);
    }

    private static void statements(Check check) {
        takes(check, "hall 2 2;", 1);
        takes(check, "hall 9 6;", 1);
        takes(check, " \n hall\n2 2 ; \n", 1);
        takes(check, "hall 3 3;wall 0 0;wall 0 0;door 1 1;door 2 2;", 5);
        takes(check, "hall 3 3;person a at 0 0 " + PERSON + ";guard b at 0 0 sees 1 looks 1;", 3);
        takes(check, "hall 3 3;person a at 0 0 " + PERSON + " passer;door 0 0;", 3);
        takes(check, "hall 3 3;stroke 1;stroke 99;open 1;open 30;near 1;near 5;enough 1;enough 9;", 9);
        takes(check, "hall 0009 0006;stroke 0099;", 2);
        takes(check, "hall 2 2;person a at 1 1 slow-60 dares 9 comes 4 walks neswxneswxne;", 2);
        takes(check, "hall 2 2;person a at 1 1 slow - 0 dares 0 comes 0 walks sees;", 2);
        takes(check, "hall 2 2;guard second at 1 1 sees 9 looks 20;", 2);
    }

    private static void words(Check check) {
        check.textFault(1, "^x;");
        check.textFault(1, "^wall 0 0;");
        check.textFault(1, "^Hall 2 2;");
        check.textFault(1, "^halls 2 2;");
        check.textFault(1, "^hal");
        check.textFault(1, "^;");
        check.textFault(1, "^5");
        check.textFault(1, "^\thall 2 2;");
        check.textFault(1, "^\u00e9");
        check.textFault(1, "^\u0000");
        check.textFault(1, "hall 2 2;^;");
        check.textFault(1, "hall 2 2;^hall 2 2;");
        check.textFault(1, "hall 2 2;^at 0 0;");
        check.textFault(1, "hall 2 2;^passer;");
        check.textFault(1, "hall 2 2;^ann;");
        check.textFault(1, "hall 2 2;^wal");
        check.textFault(1, "hall ^x 2;");
        check.textFault(1, "hall 2^, 2;");
        check.textFault(1, "hall 2 2 ^2;");
        check.textFault(1, "hall 2 2 ^12345;");
        check.textFault(1, "hall 2 2^.");
        check.textFault(1, "hall ^-2 2;");
        check.textFault(1, "hall 2 2;person a ^on 0 0;");
        check.textFault(1, "hall 2 2;person a at 0 0 ^dares 0;");
        check.textFault(1, "hall 2 2;person a at 0 0 slow - ^- 1;");
        check.textFault(1, "hall 2 2;person a at 0 0 slow ^+ 1;");
        check.textFault(1, "hall 2 2;person a at 0 0 slow 0 dares ^-1;");
        check.textFault(1, "hall 2 2;person a at 0 0 " + PERSON + " passer ^passer;");
        check.textFault(1, "hall 2 2;person a at 0 0 " + PERSON + " ^leader;");
        check.textFault(1, "hall 2 2;guard a at 0 0 sees 1 ^sees 1;");
        check.textFault(1, "hall 2 2;guard a at 0 0 sees 1 looks 1 ^passer;");
    }

    private static void blanks(Check check) {
        check.textFault(1, "hall^2 2;");
        check.textFault(1, "hall^9999 2;");
        check.textFault(1, "hall^12345 2;");
        check.textFault(1, "hall 2 2;person a at 0 0^slow 0 dares 0 comes 0 walks x;");
        check.textFault(1, "hall 2 2;person a at^0 0 slow 0 dares 0 comes 0 walks x;");
        check.textFault(1, "hall 2 2;person a at 0 0 slow^0 dares 0 comes 0 walks x;");
        check.textFault(1, "hall 2 2;person a at 0 0 slow 0 dares 0 comes 0^walks x;");
        check.textFault(1, "hall 2 2;person a at 0 0 slow 0 dares 0 comes 0 walks^5;");
        check.textFault(1, "hall 2 2;person^5 at 0 0;");
        check.textFault(1, "hall 2 2;person a^5 at 0 0;");
        check.textFault(1, "hall 2 2;stroke^5;");
        check.textFault(1, "hall 2^\u000b2;");
        check.textFault(1, "hall 2^\r2;");
        takes(check, "hall 2 2;person a at 0 0 slow-1 dares 0 comes 0 walks x;", 2);
        takes(check, "hall 2\n2;stroke\n5\n;", 2);
    }

    private static void numbers(Check check) {
        check.textFault(2, "hall ^1 2;");
        check.textFault(2, "hall ^10 2;");
        check.textFault(2, "hall 2 ^1;");
        check.textFault(2, "hall 2 ^7;");
        check.textFault(2, "hall ^1");
        check.textFault(2, "hall ^1x");
        check.textFault(2, "hall ^9999 2;");
        check.textFault(1, "hall 1234^5 2;");
        check.textFault(1, "hall 2 0000^02;");
        check.textFault(2, "hall 2 2;stroke ^0;");
        check.textFault(2, "hall 2 2;stroke ^100;");
        check.textFault(2, "hall 2 2;open ^0;");
        check.textFault(2, "hall 2 2;open ^31;");
        check.textFault(2, "hall 2 2;near ^0;");
        check.textFault(2, "hall 2 2;near ^6;");
        check.textFault(2, "hall 2 2;enough ^0;");
        check.textFault(2, "hall 2 2;enough ^10;");
        check.textFault(1, "hall 2 2;enough 0000^0;");
        check.textFault(2, "hall 2 2;person a at 0 0 slow ^61 dares 0;");
        check.textFault(2, "hall 2 2;person a at 0 0 slow ^-61 dares 0;");
        check.textFault(2, "hall 2 2;person a at 0 0 slow ^- \n 61 dares 0;");
        check.textFault(1, "hall 2 2;person a at 0 0 slow - 9999^9 dares 0;");
        check.textFault(2, "hall 2 2;person a at 0 0 slow 0 dares ^10 comes 0;");
        check.textFault(2, "hall 2 2;person a at 0 0 slow 0 dares 0 comes ^5;");
        check.textFault(2, "hall 2 2;guard a at 0 0 sees ^0;");
        check.textFault(2, "hall 2 2;guard a at 0 0 sees ^10;");
        check.textFault(2, "hall 2 2;guard a at 0 0 sees 1 looks ^0;");
        check.textFault(2, "hall 2 2;guard a at 0 0 sees 1 looks ^21;");
    }

    private static void cells(Check check) {
        check.textFault(2, "hall 3 2;wall ^3 0;");
        check.textFault(2, "hall 3 2;wall 2 ^2;");
        check.textFault(2, "hall 3 2;door 1 1;wall 1 ^1;");
        check.textFault(2, "hall 3 2;person a at 2 1 " + PERSON + ";wall 2 ^1;");
        check.textFault(2, "hall 3 2;guard a at 2 1 sees 1 looks 1;wall 2 ^1;");
        check.textFault(2, "hall 3 2;wall 2 1;door 2 ^1;");
        check.textFault(2, "hall 3 2;door 2 1;door 2 ^1;");
        check.textFault(2, "hall 3 2;wall 2 1;person a at 2 ^1 slow 0;");
        check.textFault(2, "hall 3 2;wall 2 1;guard a at 2 ^1 sees 1;");
        check.textFault(1, "hall 3 2;wall 1 ^;");
        check.textFault(1, "hall 3 2;wall 1^,1;");
    }

    private static void names(Check check) {
        String a = "hall 2 2;person abcdef at 0 0 " + PERSON + ";guard g at 0 0 sees 1 looks 1;";
        check.textFault(3, a + "person ^abcdef at 0 0;");
        check.textFault(3, a + "person ^g at 0 0;");
        check.textFault(3, a + "guard ^abcdef at 0 0;");
        check.textFault(3, a + "guard ^g");
        check.textFault(1, a + "guard abcdef^g at 0 0;");
        check.textFault(1, a + "guard ^G at 0 0;");
        check.textFault(1, a + "guard a^G at 0 0;");
        takes(check, a + "guard abcde at 0 0 sees 1 looks 1;", 4);
        for (String own : ("hall wall door person at slow dares comes walks passer guard sees looks stroke open near "
                + "enough").split(" ")) {
            check.textFault(1, "hall 2 2;person ^" + own + " at 0 0;");
            check.textFault(1, "hall 2 2;guard ^" + own + " at 0 0;");
        }
    }

    private static void steps(Check check) {
        String a = "hall 2 2;person a at 0 0 slow 0 dares 0 comes 0 walks ";
        check.textFault(1, a + "^q;");
        check.textFault(1, a + "^neswxq;");
        check.textFault(1, a + "^neswxneswxnes;");
        check.textFault(1, a + "^passer;");
        check.textFault(1, a + "^;");
        check.textFault(1, a + "n ^n;");
        check.textFault(1, a + "n^1;");
        check.textFault(1, a + "n ^person;");
    }

    private static void ends(Check check) {
        check.textFault(1, "^");
        check.textFault(1, "  \n ^");
        check.textFault(1, "hall^");
        check.textFault(1, "hall  ^");
        check.textFault(1, "hall 2^");
        check.textFault(1, "hall 2 2^");
        check.textFault(1, "hall 2 2; wall^");
        check.textFault(1, "hall 2 2;person^");
        check.textFault(1, "hall 2 2;person a at 0 0 slow^");
        check.textFault(1, "hall 2 2;person a at 0 0 slow - ^");
        check.textFault(1, "hall 2 2;person a at 0 0 slow 0 dares 0 comes 0 walks^");
        check.textFault(1, "hall 2 2;person a at 0 0 slow 0 dares 0 comes 0 walks x^");
        check.textFault(1, "hall 2 2;person a at 0 0 slow 0 dares 0 comes 0 walks x passer \n^");
    }

    private static String times(int n, String one) {
        return one.repeat(n);
    }

    private static String many(String kind, int n, String rest) {
        StringBuilder text = new StringBuilder();
        for (int k = 0; k < n; k++) {
            text.append(kind).append(' ').append((char) ('a' + k)).append(rest);
        }
        return text.toString();
    }

    private static void tooMany(Check check) {
        takes(check, "hall 2 2;" + times(15, "wall 0 0;"), 16);
        check.textFault(5, "hall 2 2;" + times(15, "wall 0 0;") + "^wall");
        String doors = "hall 9 2;door 0 0;door 1 0;door 2 0;door 3 0;door 4 0;door 5 0;";
        takes(check, doors, 7);
        check.textFault(5, doors + "^door x;");
        String people = "hall 2 2;" + many("person", 9, " at 0 0 " + PERSON + ";");
        takes(check, people, 10);
        check.textFault(5, people + " ^person a at 0 0;");
        String guards = "hall 2 2;" + many("guard", 4, " at 0 0 sees 1 looks 1;");
        takes(check, guards, 5);
        check.textFault(5, guards + "\n^guard hall;");
        takes(check, "hall 2 2;" + times(69, "open 1;"), 70);
        takes(check, "hall 2 2;" + times(69, "open 1;") + " \n", 70);
        check.textFault(5, "hall 2 2;" + times(69, "open 1;") + "^open 1;");
        check.textFault(5, "hall 2 2;" + times(69, "open 1;") + " ^?");
        check.textFault(5, "hall 2 2;" + times(69, "open 1;") + " ^;");
        check.textFault(5, "hall 2 2;" + times(69, "open 1;") + " ^hall");
        check.textFault(1, "hall 2 2;" + times(68, "open 1;") + "^hall");
        check.textFault(1, "hall 2 2;" + times(68, "open 1;") + "open 1^");
    }

    private static void stays(Check check) {
        StrokeHall hall = Check.told("hall 3 3;door 0 0;person a at 1 1 slow 5 dares 1 comes 2 walks x;stroke 9;");
        hall.set(0, 0, 70);
        hall.close(0, true);
        hall.come(0);
        hall.seed(7);
        Check.tape(hall, "hall 2 2;door 0 0;person b at 1 1 slow 0 dares 0 comes 0 walks x;stroke 5;^");
        check.due("text() with a fault", hall.text(), StrokeHall.NONE);
        check.due("wide stays", hall.hall(0), 3);
        check.due("stroke stays", hall.hall(7), 9);
        check.due("closed stays", hall.hall(4), 1);
        check.due("who come stays", hall.hall(11), 0);
        check.due("acts stay", hall.hall(12), 2);
        check.due("the watch stays", hall.person(0, 1), 70);
        check.due("the name stays", hall.letter(0, 0, 0), 1);
        Check.tape(hall, "hall 2 2;door 0 0;person b at 1 1 slow 0 dares 0 comes 1 walks x;");
        check.due("text()", hall.text(), 3);
        check.due("wide", hall.hall(0), 2);
        check.due("stroke is told no more", hall.hall(7), 60);
        check.due("no door is closed", hall.hall(4), 0);
        check.due("all come", hall.hall(11), 1);
        check.due("nothing can be undone", hall.hall(12), 0);
        check.due("undo()", hall.undo(), false);
        check.due("fault(0)", hall.fault(0), 0);
        // 7 -> 7724619060: mod 2 to the 31 it is 1282168116, by 64 it is 20033876: of 4 a 0; the seed 1 draws 2.
        check.due("the seed stays", hall.lot(), 1);
    }
}
