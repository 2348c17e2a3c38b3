/** Term IV and promise 26: each sentence that names a bound of a question, on it and beyond it. */
public final class EdgesOfQuestionTest {
    private static final int NONE = StrokeHall.NONE;
    private static final Check CHECK = new Check("EdgesOfQuestionTest");
    /** ann opens in 3 (to 4), goes in 5, is out in 6; bob, a passer, waits; cid does not come. */
    private static final String TEXT = "hall 4 3;door 0 0;person ann at 1 0 slow 0 dares 0 comes 4 walks x;"
        + "person bob at 3 2 slow 0 dares 9 comes 4 walks nx passer;"
        + "person cid at 2 2 slow 0 dares 0 comes 4 walks x;stroke 3;open 2;enough 1;";

    public static void main(String[] args) {
        allSeconds();
        firstAndLast();
        often();
        totals();
        mostAndLeast();
        orAndAnd();
        signs();
        numbers();
        atPart();
        doesPart();
        alarm();
        counts();
        fromTheLeft();
        quotients();
        held();
        faultsAsInI();
        whatStandsBehind();
        endsTooSoon();
        seventh();
        openAtOnce();
        oneWithoutHall();
        longOnes();
        manyOnes();
        CHECK.finish();
    }

    private static StrokeHall hall() {
        StrokeHall hall = CHECK.fine(TEXT);
        CHECK.due("cid does not come", hall.come(3), true);
        return hall;
    }

    private static void allSeconds() {
        CHECK.says("A QUESTION is a text, of all SECONDS 0 .. 200 of the MORNING as all is now:");
        StrokeHall hall = hall();
        CHECK.asks(hall, "first all", 0);
        CHECK.asks(hall, "last all", 200);
        CHECK.asks(hall, "often all", 201);
        CHECK.asks(hall, "total 1", 201);
        CHECK.asks(hall, "total second", 20100);
        CHECK.asks(hall, "first open = 1", 3);
        hall.set(0, 0, 70);
        CHECK.asks(hall, "first open = 1", 13);
        hall.come(6);
        CHECK.asks(hall, "first open = 1", 3);
        hall.come(2);
        CHECK.asks(hall, "first open = 1", NONE);
        hall.come(1);
        hall.undo();
        CHECK.asks(hall, "first open = 1", 3);
        CHECK.asks(hall, "first outs = 1", 6);
        hall.close(0, true);
        CHECK.asks(hall, "first outs = 1", NONE);
    }

    private static void firstAndLast() {
        CHECK.says("first TEST, last TEST (the first, the last SECOND in which it holds),");
        StrokeHall hall = hall();
        for (int t : new int[] {0, 1, 99, 199, 200}) {
            CHECK.asks(hall, "first second = " + t, t);
            CHECK.asks(hall, "last second = " + t, t);
        }
        CHECK.asks(hall, "first second > 3", 4);
        CHECK.asks(hall, "last second < 3", 2);
        CHECK.asks(hall, "first second = 7 or second = 9", 7);
        CHECK.asks(hall, "last second = 7 or second = 9", 9);
        CHECK.says("NONE of first, last, when its TEST holds in none;");
        CHECK.asks(hall, "first second = 201", NONE);
        CHECK.asks(hall, "last second = 201", NONE);
        CHECK.asks(hall, "first not all", NONE);
        CHECK.asks(hall, "last not all", NONE);
    }

    private static void often() {
        CHECK.says("often TEST (in how many),");
        StrokeHall hall = hall();
        CHECK.asks(hall, "often not all", 0);
        CHECK.asks(hall, "often second = 0", 1);
        CHECK.asks(hall, "often second = 200", 1);
        CHECK.asks(hall, "often second > 0", 200);
        CHECK.asks(hall, "often second < 200", 200);
        CHECK.asks(hall, "often second = 0 or second = 200", 2);
    }

    private static void totals() {
        CHECK.says("total SUM (of all together, not held),");
        StrokeHall hall = hall();
        CHECK.asks(hall, "total 9999 * 9999", 201000000);
        CHECK.asks(hall, "total 0 - 9999 * 9999", -201000000);
        CHECK.asks(hall, "total 0", 0);
        CHECK.asks(hall, "total 9999", 2009799);
        CHECK.asks(hall, "total 100 - second", 0);
        CHECK.asks(hall, "total 0 - 1", -201);
    }

    private static void mostAndLeast() {
        CHECK.says("most SUM, least SUM (the greatest, the least of all).");
        StrokeHall hall = hall();
        CHECK.asks(hall, "most second", 200);
        CHECK.asks(hall, "least second", 0);
        CHECK.asks(hall, "most 200 - second", 200);
        CHECK.asks(hall, "least 200 - second", 0);
        CHECK.asks(hall, "most 0 - second", 0);
        CHECK.asks(hall, "least 0 - second", -200);
        CHECK.asks(hall, "most 0 - 1 - second", -1);
        CHECK.asks(hall, "least 5 + second", 5);
        for (int t : new int[] {0, 1, 2, 100, 199, 200}) {
            CHECK.asks(hall, "most 1 - max(second - " + t + ", " + t + " - second)", 1);
            CHECK.asks(hall, "least max(second - " + t + ", " + t + " - second) - 1", -1);
        }
        CHECK.asks(hall, "most second * (100 - second)", 2500);
        CHECK.asks(hall, "least second * (second - 100)", -2500);
        CHECK.asks(hall, "most 0 - 9999 * 9999", -1000000);
        CHECK.asks(hall, "least 9999 * 9999", 1000000);
    }

    private static void orAndAnd() {
        CHECK.says("TEST: BOTH { or BOTH }. BOTH: FACT { and FACT }.");
        StrokeHall hall = hall();
        String[] facts = {"not all", "all"};
        for (int k = 0; k < 8; k++) {
            boolean a = (k & 1) == 1;
            boolean b = (k & 2) == 2;
            boolean c = (k & 4) == 4;
            String x = facts[a ? 1 : 0];
            String y = facts[b ? 1 : 0];
            String z = facts[c ? 1 : 0];
            CHECK.asks(hall, "often " + x + " or " + y + " and " + z, a || b && c ? 201 : 0);
            CHECK.asks(hall, "often " + x + " and " + y + " or " + z, a && b || c ? 201 : 0);
            CHECK.asks(hall, "often [ " + x + " or " + y + " ] and " + z, (a || b) && c ? 201 : 0);
            CHECK.asks(hall, "often " + x + " and [ " + y + " or " + z + " ]", a && (b || c) ? 201 : 0);
            CHECK.asks(hall, "often " + x + " or " + y + " or " + z, a || b || c ? 201 : 0);
            CHECK.asks(hall, "often " + x + " and " + y + " and " + z, a && b && c ? 201 : 0);
            CHECK.asks(hall, "often not [ " + x + " or " + y + " ] or " + z, !(a || b) || c ? 201 : 0);
        }
        CHECK.says("FACT: not FACT; [ TEST ] ; all; SUM SIGN SUM,");
        CHECK.asks(hall, "often not not all", 201);
        CHECK.asks(hall, "often not 1 = 2 and 1 = 2", 0);
        CHECK.asks(hall, "often not 1 = 2 or 1 = 1", 201);
        CHECK.asks(hall, "often [[[all]]]", 201);
        String[] ones = {"all", "1 = 1", "1 < 2", "2 > 1", "not 1 = 2", "[all]"};
        hall = hall();
        for (String one : ones) {
            for (String other : ones) {
                CHECK.asks(hall, "often " + one + " and " + other, 201);
            }
        }
    }

    private static void signs() {
        CHECK.says("SIGN < or > or = .");
        StrokeHall hall = hall();
        CHECK.asks(hall, "often second < 0", 0);
        CHECK.asks(hall, "often second < 1", 1);
        CHECK.asks(hall, "often second < 200", 200);
        CHECK.asks(hall, "often second < 201", 201);
        CHECK.asks(hall, "often second > 200", 0);
        CHECK.asks(hall, "often second > 199", 1);
        CHECK.asks(hall, "often second > 0", 200);
        CHECK.asks(hall, "often 0 = second", 1);
        CHECK.asks(hall, "often 1 < second + 1", 200);
        CHECK.askFault(hall, 1, "often 1 <^= 2");
        CHECK.askFault(hall, 1, "often 1 = 1 ^= 1");
        CHECK.askFault(hall, 1, "often 1 ^! 1");
    }

    private static void numbers() {
        CHECK.says("N (1 to 4 digits);");
        StrokeHall hall = hall();
        CHECK.asks(hall, "most 0", 0);
        CHECK.asks(hall, "most 0000", 0);
        CHECK.asks(hall, "most 0007", 7);
        CHECK.asks(hall, "most 9999", 9999);
        CHECK.asks(hall, "most 1000", 1000);
        CHECK.askFault(hall, 1, "most 0000^0");
        CHECK.askFault(hall, 1, "most 9999^9 + 1");
        CHECK.askFault(hall, 1, "most 1 + 1000^0");
        CHECK.askFault(hall, 1, "most at 0000^0");
    }

    private static void atPart() {
        CHECK.says("the CELL in it of that number of the PEOPLE, 99 if he did not come, is OUT, or there is none "
            + "such;");
        StrokeHall hall = hall();
        CHECK.asks(hall, "first at 0 = 0", 5);
        CHECK.asks(hall, "last at 0 = 1", 4);
        CHECK.asks(hall, "first at 0 = 99", 6);
        CHECK.asks(hall, "often at 0 = 99", 195);
        CHECK.asks(hall, "last at 0 < 99", 5);
        CHECK.asks(hall, "often at 1 = 11", 1);
        CHECK.asks(hall, "often at 1 = 7", 2);
        CHECK.asks(hall, "least at 1", 3);
        CHECK.asks(hall, "least at 2", 99);
        CHECK.asks(hall, "least at 3", 99);
        CHECK.asks(hall, "least at 31", 99);
        CHECK.asks(hall, "least at 32", 99);
        CHECK.asks(hall, "least at 9999", 99);
        CHECK.asks(hall, "least at (0 - 1)", 99);
        CHECK.asks(hall, "least at (0 - 32)", 99);
        CHECK.asks(hall, "least at (9999 * 9999)", 99);
        CHECK.asks(hall, "least at (0 - 9999 * 9999)", 99);
        CHECK.asks(hall, "last at at 0 = 11", 0);
        CHECK.asks(hall, "often at at 0 = at 1", 5);
        hall.come(7);
        CHECK.asks(hall, "most at 2", 99);
        CHECK.asks(hall, "least at 2", 0);
        CHECK.asks(hall, "first at 2 = 6", 5);
        CHECK.asks(hall, "first at 2 < 10", 5);
        StrokeHall nine = CHECK.fine(nineAt());
        for (int p = 0; p < 9; p++) {
            CHECK.asks(nine, "most at " + p, 45 + p);
        }
        CHECK.asks(nine, "most at 9", 99);
    }

    private static String nineAt() {
        StringBuilder text = new StringBuilder("hall 9 6;stroke 9;");
        for (int k = 0; k < 9; k++) {
            text.append("person ").append((char) ('a' + k)).append(" at ").append(k)
                .append(" 5 slow 0 dares 0 comes 4 walks x passer;");
        }
        return text.toString();
    }

    private static void doesPart() {
        CHECK.says("0 if he did not come, or there is none such, 1 if he WAITS, 2 is OPEN, 3 GOES, 4 is OUT in "
            + "it.)");
        StrokeHall hall = hall();
        CHECK.asks(hall, "last does 0 = 1", 2);
        CHECK.asks(hall, "first does 0 = 2", 3);
        CHECK.asks(hall, "last does 0 = 2", 4);
        CHECK.asks(hall, "first does 0 = 3", 5);
        CHECK.asks(hall, "last does 0 = 3", 5);
        CHECK.asks(hall, "first does 0 = 4", 6);
        CHECK.asks(hall, "last does 0 = 4", 200);
        CHECK.asks(hall, "often does 1 = 1", 201);
        for (String who : new String[] {"2", "3", "31", "32", "9999", "(0 - 1)", "(0 - 32)", "(0 - 9999 * 9999)"}) {
            CHECK.asks(hall, "often does " + who + " = 0", 201);
        }
        CHECK.asks(hall, "often does does 0 = 1", 3);
        StrokeHall nine = CHECK.fine(nineAt());
        CHECK.asks(nine, "often does 8 = 1", 201);
        CHECK.asks(nine, "often does 9 = 0", 201);
    }

    private static void alarm() {
        CHECK.says("1 if the ALARM was in it or ahead, else 0;");
        String text = "hall 9 2;guard g at 8 0 sees 1 looks 1;person a at 0 0 slow 0 dares 0 comes 4 walks e passer;";
        StrokeHall hall = CHECK.fine(text);
        CHECK.asks(hall, "first alarm = 1", 7);
        CHECK.asks(hall, "last alarm = 0", 6);
        CHECK.asks(hall, "last alarm = 1", 200);
        CHECK.asks(hall, "total alarm", 194);
        hall.set(0, 2, 8);
        CHECK.asks(hall, "total alarm", 201);
        hall.come(0);
        CHECK.asks(hall, "most alarm", 0);
    }

    private static void counts() {
        CHECK.says("(The SECOND; how many are OPEN, WAIT, GO, are OUT in it;");
        StrokeHall hall = hall();
        int[][] due = {{0, 0, 2, 0, 0}, {2, 0, 2, 0, 0}, {3, 1, 1, 0, 0}, {4, 1, 1, 0, 0}, {5, 0, 1, 1, 0},
            {6, 0, 1, 0, 1}, {200, 0, 1, 0, 1}};
        String[] words = {"second", "open", "waits", "goes", "outs"};
        for (int[] n : due) {
            for (int k = 1; k < 5; k++) {
                CHECK.asks(hall, "often second = " + n[0] + " and " + words[k] + " = " + n[k], 1);
            }
        }
        hall.come(0);
        for (int k = 1; k < 5; k++) {
            CHECK.asks(hall, "most " + words[k], 0);
        }
    }

    private static void fromTheLeft() {
        CHECK.says("SUM: PRODUCT { + or - PRODUCT }. PRODUCT: PART { * or / PART }.");
        StrokeHall first = hall();
        CHECK.asks(first, "most 2 + 3 * 4", 14);
        CHECK.asks(first, "most 2 * 3 + 4", 10);
        CHECK.asks(first, "most 2 - 8 / 4", 0);
        CHECK.asks(first, "most at 9 * 2", 198);
        CHECK.asks(first, "most at 9 - at 9 / 9 * 9", 0);
        CHECK.says("All from the left on;");
        StrokeHall hall = hall();
        CHECK.asks(hall, "most 9 - 5 - 3", 1);
        CHECK.asks(hall, "most 9 - (5 - 3)", 7);
        CHECK.asks(hall, "most 9 - 5 + 3", 7);
        CHECK.asks(hall, "most 100 / 10 / 5", 2);
        CHECK.asks(hall, "most 100 / (10 / 5)", 50);
        CHECK.asks(hall, "most 7 / 2 * 2", 6);
        CHECK.asks(hall, "most 2 * 7 / 2", 7);
        CHECK.asks(hall, "most 1 + 2 * 3 + 4", 11);
        CHECK.asks(hall, "most (1 + 2) * (3 + 4)", 21);
        CHECK.asks(hall, "most 9 - 6 / 4 * 2", 7);
        CHECK.asks(hall, "most min (3, 5) - max (3, 5)", -2);
        CHECK.asks(hall, "most min (5, 3) - max (5, 3)", -2);
        CHECK.asks(hall, "most min (0 - 5, 3)", -5);
        CHECK.asks(hall, "most max (0 - 5, 0 - 3)", -3);
    }

    private static void quotients() {
        CHECK.says("/ gives the greatest whole number not above, by 0 it gives 0;");
        StrokeHall hall = hall();
        for (int a = -7; a <= 7; a++) {
            hall = hall();
            for (int b = -3; b <= 3; b++) {
                String top = a < 0 ? "(0 - " + -a + ")" : "" + a;
                String bottom = b < 0 ? "(0 - " + -b + ")" : "" + b;
                CHECK.asks(hall, "most " + top + " / " + bottom, b == 0 ? 0 : (long) Math.floor((double) a / b));
            }
        }
        hall = hall();
        CHECK.asks(hall, "most 9999 * 9999 / 0", 0);
        CHECK.asks(hall, "most 0 / 0", 0);
        CHECK.asks(hall, "most (0 - 9999 * 9999) / 9999", -101);
        CHECK.asks(hall, "most 9999 * 9999 / (0 - 9999)", -101);
        CHECK.asks(hall, "most (0 - 9999 * 9999) / (0 - 1)", 1000000);
        CHECK.asks(hall, "most (0 - 9999 * 9999) / (0 - 9999 * 9999)", 1);
        CHECK.asks(hall, "least 100 / (second - 100)", -100);
        CHECK.asks(hall, "most 100 / (second - 100)", 100);
    }

    private static void held() {
        CHECK.says("each PART but N, each sum, difference, product above 10 to the 6 is that, below -10 to the 6 "
            + "likewise.");
        StrokeHall hall = hall();
        CHECK.asks(hall, "most 1000 * 1000", 1000000);
        CHECK.asks(hall, "most 1000 * 1000 + 1", 1000000);
        CHECK.asks(hall, "most 1000 * 1000 + 1 - 1", 999999);
        CHECK.asks(hall, "most 1000 * 1000 - 1", 999999);
        CHECK.asks(hall, "most 1000 * 1001", 1000000);
        CHECK.asks(hall, "most 1000 * 1001 - 1", 999999);
        CHECK.asks(hall, "most 999 * 1001", 999999);
        CHECK.asks(hall, "least 0 - 1000 * 1000", -1000000);
        CHECK.asks(hall, "least 0 - 1000 * 1000 - 1", -1000000);
        CHECK.asks(hall, "least 0 - 1000 * 1000 - 1 + 1", -999999);
        CHECK.asks(hall, "least (0 - 1000) * 1001 + 1", -999999);
        CHECK.asks(hall, "least (0 - 999) * 1001", -999999);
        CHECK.asks(hall, "most (9999 * 9999 + 9999 * 9999) / 1000", 1000);
        CHECK.asks(hall, "most 9999 * 9999 * (9999 * 9999)", 1000000);
        CHECK.asks(hall, "least 9999 * 9999 * (0 - 9999 * 9999)", -1000000);
        CHECK.asks(hall, "most (0 - 9999 * 9999) * (0 - 9999 * 9999)", 1000000);
        CHECK.asks(hall, "most 9999 * 9999 * 9999 / 9999", 100);
        CHECK.asks(hall, "most max(9999 * 9999, 1) - 1", 999999);
        CHECK.asks(hall, "often 9999 * 9999 = 1000 * 1000", 201);
    }

    private static void faultsAsInI() {
        CHECK.says("1 as in I (an unknown word at its first byte;");
        StrokeHall hall = hall();
        CHECK.asks(hall, "often second > 0 and open < 9 and waits < 9 and goes < 9 and outs < 9 and alarm < 9", 200);
        CHECK.asks(hall, "often at 0 < 100 and does 0 < 9 and (1) = min (1, 2) and max (1, 2) = 2", 201);
        String[] faults = {"^seconds", "^secon", "^Second", "^hall", "^person", "^ann", "^x", "^all", "^not 1",
            "^and", "^or",
            "^first", "^[ 1 ]", "^-1", "^+1", "^)", "^,", "^;", "^<", "^?", "^\u00ff", "^\u0000", "^\t1", "min ^1",
            "min^",
            "max ( 1 ^)", "max ( 1 , ^)", "min ( 1 ^; 2 )", "( 1 ^]", "at ^-1", "at ^all", "does ^not 1"};
        for (String one : faults) {
            CHECK.askFault(hall, 1, "total " + one);
        }
        CHECK.askFault(hall, 1, "^frist all");
        CHECK.askFault(hall, 1, "^firstall");
        CHECK.askFault(hall, 1, "^1");
        CHECK.askFault(hall, 1, "^(1)");
        CHECK.askFault(hall, 1, "^second = 1");
        CHECK.askFault(hall, 1, "first ^alls");
        CHECK.askFault(hall, 1, "first ^first");
        CHECK.askFault(hall, 1, "first 1 ^and 2");
        CHECK.askFault(hall, 1, "first [all ^= all]");
        CHECK.says("words and numbers side by side need one).");
        hall = hall();
        CHECK.askFault(hall, 1, "total^1");
        CHECK.askFault(hall, 1, "total 1^second");
        CHECK.askFault(hall, 1, "total second^1");
        CHECK.askFault(hall, 1, "total at^0");
        CHECK.askFault(hall, 1, "first 1=1^or all");
        CHECK.askFault(hall, 1, "first 1=1 or^1=1");
        CHECK.asks(hall, "total(1)", 201);
        CHECK.asks(hall, "total(1)*second-second", 0);
        CHECK.asks(hall, "often[1=1]and[1=1]or[1=1]", 201);
        CHECK.asks(hall, "\noften\nnot\n[\n1\n=\n2\n]\n", 201);
    }

    private static void whatStandsBehind() {
        CHECK.says("what stands behind it, too);");
        StrokeHall hall = hall();
        for (String behind : "^x ^all ^second ^1 ^12345 ^) ^] ^; ^, ^. ^( ^[ ^not ^at ^does".split(" ")) {
            CHECK.askFault(hall, 1, "total 1 " + behind);
        }
        hall = hall();
        for (String behind : "^x ^all ^second ^1 ^12345 ^) ^] ^; ^, ^< ^+ ^( ^[ ^not ^at".split(" ")) {
            CHECK.askFault(hall, 1, "first all " + behind);
        }
        CHECK.asks(hall, "first all \n ", 0);
    }

    /** Behind each of its words and signs a question may end: too soon, or where it is one. */
    private static void endsTooSoon() {
        CHECK.says("at the text's length, if it ends too soon);");
        String question = "first not [ at ( 0 + 1 ) = min ( 2 , does 1 ) or all ] and max ( 3 , 4 / 5 ) > 6";
        String whole = "6";
        StrokeHall hall = hall();
        for (int k = 0; k < question.length(); k++) {
            if (question.charAt(k) == ' ') {
                String head = question.substring(0, k);
                boolean isOne = head.endsWith("all ]") || head.endsWith(whole);
                hall = hall();
                if (isOne) {
                    CHECK.asks(hall, head, NONE);
                } else {
                    CHECK.askFault(hall, 1, head + "^");
                    CHECK.askFault(hall, 1, head + " \n^");
                }
            }
        }
        hall = hall();
        for (String head : new String[] {"total 1 +", "total 1 -", "total 1 *", "total 1 /", "total at", "total does",
            "total (",
            "total min", "total min (", "total min ( 1", "total min ( 1 ,", "total max ( 1 , 2", "first not", "first [",
            "first [ all", "first all and", "first all or", "first 1", "first 1 <", "first 1 >", "first 1 =",
            "first ( 1 )"}) {
            CHECK.askFault(hall, 1, head + "^");
        }
        hall = hall();
        CHECK.asks(hall, question, NONE);
        CHECK.askFault(hall, 1, "^");
        CHECK.askFault(hall, 1, " \n^");
        for (String one : "first last often total most least".split(" ")) {
            CHECK.askFault(hall, 1, one + "^");
        }
    }

    private static void seventh() {
        CHECK.says("4 the 7th of ( [ not at does that is open at once");
        String[] openers = {"(", "[", "not ", "at ", "does ", "min (", "max ("};
        for (String one : openers) {
            boolean isTest = one.equals("[") || one.equals("not ");
            StrokeHall hall = hall();
            String start = isTest ? "often " : "total ";
            int places = one.endsWith("(") ? one.length() - 1 : 0;
            String sixth = start + one.repeat(6);
            CHECK.askFault(hall, 4, sixth + one.substring(0, places) + "^" + one.substring(places));
            CHECK.askFault(hall, 4, sixth + one.substring(0, places) + "^" + one.substring(places) + one);
            CHECK.askFault(hall, 1, sixth + "^");
            CHECK.askFault(hall, 1, sixth + "^?");
            for (String other : openers) {
                boolean otherIsTest = other.equals("[") || other.equals("not ");
                if (isTest || !otherIsTest) {
                    int at = other.endsWith("(") ? other.length() - 1 : 0;
                    CHECK.askFault(hall, 4, sixth + other.substring(0, at) + "^" + other.substring(at) + "1");
                } else {
                    CHECK.askFault(hall, 1, sixth + "^" + other + "1");
                }
            }
        }
        StrokeHall hall = hall();
        CHECK.askFault(hall, 4, "total min(1, min(1, min(1, min(1, min(1, min(1, ^(1");
        CHECK.askFault(hall, 4, "total max(1, max(1, max(1, max(1, max(1, max(1, max^(1");
        CHECK.askFault(hall, 4, "total min(1, min(1, min(1, min(1, min(1, min(1, 1 + ^at 1");
        CHECK.asks(hall, "total ((((((1))))))", 201);
        CHECK.asks(hall, "often [[[[[[all]]]]]]", 201);
        CHECK.asks(hall, "often not not not not not not all", 201);
        CHECK.asks(hall, "total does does does does does does 0 * 0", 0);
        CHECK.asks(hall, "least at at at at at at 9", 99);
        CHECK.asks(hall, "total min(1, min(1, min(1, min(1, min(1, min(1, 1))))))", 201);
        CHECK.asks(hall, "total max(max(max(max(max(max(1, 1), 1), 1), 1), 1), 1)", 201);
        CHECK.asks(hall, "often not [ not [ at ( 1 ) = 1 ] ]", 0);
        CHECK.asks(hall, "often not [ not [ at ( 9 ) = 99 ] ]", 201);
        CHECK.askFault(hall, 4, "often not [ not [ at ( ^does 1 ) = 1 ] ]");
    }

    private static void openAtOnce() {
        CHECK.says("(not until its FACT, at and does until their PART ends), at it.");
        StrokeHall hall = hall();
        // Each of these is shut ahead of the next: seven and more of them, never open at once.
        CHECK.asks(hall, "total (1)+(1)+(1)+(1)+(1)+(1)+(1)+(1)", 8 * 201);
        CHECK.asks(hall, "often [all] and [all] and [all] and [all] and [all] and [all] and [all] and [all]", 201);
        CHECK.asks(hall, "often not all or not all or not all or not all or not all or not all or not all", 0);
        CHECK.asks(hall, "least at 9 + at 9 + at 9 + at 9 + at 9 + at 9 + at 9 + at 9", 792);
        CHECK.asks(hall, "most does 9 + does 9 + does 9 + does 9 + does 9 + does 9 + does 9 + does 9", 0);
        CHECK.asks(hall, "total min(1,1)*max(1,1)*min(1,1)*max(1,1)*min(1,1)*max(1,1)*min(1,1)", 201);
        // A not is open while its FACT goes on, on both sides of its sign, and no longer.
        CHECK.askFault(hall, 4, "often not not not not not not ^(1) = 1");
        CHECK.askFault(hall, 4, "often not not not not not not 1 = ^(1)");
        CHECK.asks(hall, "often not not not not not not 1 = 1 and (1) = 1", 201);
        CHECK.asks(hall, "often not not not not not not 1 = 1 or not (1) = 1", 201);
        // An at is open while its PART goes on: what stands behind the PART is no more in it.
        CHECK.askFault(hall, 4, "least at at at at at at ^(9)");
        CHECK.asks(hall, "least at at at at at at 9 + (9)", 108);
        CHECK.asks(hall, "least at at at at at at 9 * (1)", 99);
        CHECK.asks(hall, "most does does does does does does 9 + does (9)", 4);
        CHECK.asks(hall, "least at (((((9))))) + (1)", 100);
        CHECK.askFault(hall, 4, "least at (((((^(9))))))");
        CHECK.asks(hall, "least ((((((9)+(9))))))", 18);
        CHECK.askFault(hall, 4, "least ((((((9)+(^(9");
    }

    private static void oneWithoutHall() {
        CHECK.says("NOTHING with a FAULT, or (the tape goes, nothing else is done, fault() stays) without a hall.");
        StrokeHall hall = hall();
        CHECK.askFault(hall, 1, "^nothing");
        CHECK.due("the tape goes", hall.end(1), false);
        CHECK.due("a hall is there", hall.hall(0), 4);
        StrokeHall none = new StrokeHall();
        for (String question : new String[] {"often all", "^", "x", "total 12345", "total (((((((", "first all"}) {
            Check.tape(none, question);
            CHECK.due("ask() without a hall", none.ask(), StrokeHall.NOTHING);
            CHECK.due("fault(0) ahead of any", none.fault(0), 0);
            CHECK.due("fault(1) ahead of any", none.fault(1), NONE);
            CHECK.due("the tape goes without a hall", none.end(1), false);
        }
        CHECK.textFaultOf(none, 1, "hall 2 2;^q");
        Check.tape(none, "often all");
        CHECK.due("ask() behind a text with a fault", none.ask(), StrokeHall.NOTHING);
        CHECK.due("fault(0) stays", none.fault(0), 1);
        CHECK.due("fault(1) stays", none.fault(1), 9);
    }

    /** A whole tape of 1600 bytes is one question. */
    private static void longOnes() {
        CHECK.says("{ + or - PRODUCT }");
        CHECK.asks(hall(), "total 1" + "+1".repeat(796) + " ", 797 * 201);
        CHECK.asks(hall(), "total 1" + "*1".repeat(796) + " ", 201);
        CHECK.asks(hall(), "often all" + " or all".repeat(227) + "  ", 201);
        CHECK.asks(hall(), "often all" + " and all".repeat(198) + " ".repeat(7), 201);
        CHECK.askFault(hall(), 1, "total 1" + "+1".repeat(796) + "+^");
        CHECK.asks(hall(), "total " + " ".repeat(1593) + "1", 201);
        String six = "total ((((((1";
        CHECK.asks(hall(), six + "+1".repeat(700) + "))))))", 701 * 201);
        CHECK.askFault(hall(), 4, six + "+1".repeat(700) + "+^(");
        // Most numbers wait at once here: a left side ahead of each sign and bracket.
        String most = "often [all or all and [all or all and [all or all and 1 < 1 + 1 * (1 + 1 * min(1 + 1 * 1, "
            + "1 + 1 * (2 + 1"
            + " * 1)))]]]";
        CHECK.asks(hall(), most, 201);
        CHECK.asks(hall(), "total 1 + 1 * (1 + 1 * (1 + 1 * (1 + 1 * (1 + 1 * (1 + 1 * 2)))))", 8 * 201);
        CHECK.asks(hall(), "total 1 + 1 * max(1, 1 + 1 * max(2, 1 + 1 * max(3, 1 + 1 * max(4, 1 + 1 * max(5, 1 + "
            + "1 * max(6, 1 + 1"
            + " * 7))))))", 14 * 201);
    }

    /** Each question is by itself, however many were asked ahead of it. */
    private static void manyOnes() {
        CHECK.says("A QUESTION is a text,");
        StrokeHall hall = CHECK.fine(TEXT);
        int calls = 5;
        for (int k = 0; k < 5 && calls < 400; k++) {
            Check.tape(hall, "total 1" + "+1".repeat(790));
            CHECK.due("a long one " + k, hall.ask(), 791 * 201);
            Check.tape(hall, "first second = " + (100 + k) + " or second > 150");
            CHECK.due("a short one " + k, hall.ask(), 100 + k);
            Check.tape(hall, "total (1+1+1+1+1+1+1+1+x");
            CHECK.due("one with a fault " + k, hall.ask(), StrokeHall.NOTHING);
            calls += 95;
        }
        hall = CHECK.fine(TEXT);
        for (int k = 0; k < 160; k++) {
            Check.tape(hall, "most 1+1+1+1");
            CHECK.due("question " + k, hall.ask(), 4);
        }
        CHECK.asks(hall, "most second+1", 201);
    }
}
