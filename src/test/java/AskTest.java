/** Promise 26: ask. */
public final class AskTest {
    private static final int NONE = StrokeHall.NONE;
    private static final String TEXT = "hall 5 3; wall 2 1; door 0 0; door 4 2;"
        + "person ann at 1 1 slow 0 dares 0 comes 4 walks x; person bob at 1 2 slow 3 dares 1 comes 2 walks x;"
        + "person cid at 3 2 slow - 2 dares 2 comes 2 walks en; person dot at 0 1 slow 9 dares 2 comes 1 walks x passer;"
        + "stroke 5; open 4; near 1; enough 2;";

    public static void main(String[] args) {
        Check check = new Check("AskTest");
        kinds(check);
        parts(check);
        tests(check);
        sums(check);
        faults(check);
        depths(check);
        withoutHall(check);
        ofTheMorningNow(check);
        check.finish();
    }

    private static void kinds(Check check) {
        StrokeHall hall = Check.told(TEXT);
        check.asks(hall, "first open > 1", 5);
        check.asks(hall, "last open > 1", 8);
        check.asks(hall, "often open > 1", 4);
        check.asks(hall, "first open > 9", NONE);
        check.asks(hall, "last open > 9", NONE);
        check.asks(hall, "often open > 9", 0);
        check.asks(hall, "first all", 0);
        check.asks(hall, "last all", 200);
        check.asks(hall, "often all", 201);
        check.asks(hall, "total second", 20100);
        check.asks(hall, "total 9999 * 9999", 201000000);
        check.asks(hall, "total 0 - 9999 * 9999", -201000000);
        check.asks(hall, "most second", 200);
        check.asks(hall, "least second", 0);
        check.asks(hall, "most 0 - 5 - second", -5);
        check.asks(hall, "least 0 - 5 - second", -205);
        check.asks(hall, "least 7", 7);
        check.asks(hall, "total 0-1", -201);
    }

    private static void parts(Check check) {
        StrokeHall hall = Check.told(TEXT);
        check.asks(hall, "total open", 12);
        check.asks(hall, "most waits", 4);
        check.asks(hall, "total goes", 6);
        check.asks(hall, "most outs", 3);
        check.asks(hall, "first outs = 3", 13);
        check.asks(hall, "most alarm", 0);
        check.asks(hall, "first at 2 = 14", 1);
        check.asks(hall, "often at 2 = 99", 193);
        check.asks(hall, "most at 3", 5);
        check.asks(hall, "least at 4", 99);
        check.asks(hall, "least at 9999", 99);
        check.asks(hall, "least at (0-1)", 99);
        check.asks(hall, "least at (0-9999*9999)", 99);
        check.asks(hall, "often does 2 = 1", 3);
        check.asks(hall, "often does 2 = 2", 4);
        check.asks(hall, "often does 2 = 3", 1);
        check.asks(hall, "often does 2 = 4", 193);
        check.asks(hall, "most does 4", 0);
        check.asks(hall, "most does (0-1)", 0);
        check.asks(hall, "most does (0-32)", 0);
        check.asks(hall, "most does 32", 0);
        check.asks(hall, "often at does 3 = 11", 10);
        check.asks(hall, "often at 0 + 1 = 7", 9);
        check.asks(hall, "most at at 2", 99);
        hall.come(14);
        check.asks(hall, "least at 0", 99);
        check.asks(hall, "most does 0", 0);
        StrokeHall seen = Check.told("hall 9 2;person a at 0 0 slow 0 dares 0 comes 4 walks e;"
            + "guard g at 8 1 sees 1 looks 1;");
        check.asks(seen, "first alarm = 1", 8);
        check.asks(seen, "often alarm = 1", 193);
        check.asks(seen, "total alarm", 193);
    }

    private static void tests(Check check) {
        StrokeHall hall = Check.told(TEXT);
        check.asks(hall, "first not second < 7", 7);
        check.asks(hall, "often not all", 0);
        check.asks(hall, "often not not all", 201);
        check.asks(hall, "often second < 3 or second > 197", 6);
        check.asks(hall, "often second > 3 and second < 7", 3);
        check.asks(hall, "often second < 2 or second > 3 and second < 7", 5);
        check.asks(hall, "often [second < 2 or second > 3] and second < 7", 5);
        check.asks(hall, "often all or all and second < 0", 201);
        check.asks(hall, "often [all or all] and second < 0", 0);
        check.asks(hall, "often not second < 3 or second < 1", 199);
        check.asks(hall, "often not second < 3 and second < 5", 2);
        check.asks(hall, "often not [second < 3 or second > 5]", 3);
        check.asks(hall, "often 3 = second", 1);
        check.asks(hall, "often 3 > second", 3);
        check.asks(hall, "often[[all]]", 201);
        check.asks(hall, "\n often\nall \n", 201);
    }

    private static void sums(Check check) {
        StrokeHall hall = Check.told(TEXT);
        check.asks(hall, "most 10-3-2", 5);
        check.asks(hall, "most 10-(3-2)", 9);
        check.asks(hall, "most 2+3*4", 14);
        check.asks(hall, "most (2+3)*4", 20);
        check.asks(hall, "most 100/7/2", 7);
        check.asks(hall, "most 100/7*2", 28);
        check.asks(hall, "most 7*100/2", 350);
        check.asks(hall, "most (0-7)/2", -4);
        check.asks(hall, "most 7/(0-2)", -4);
        check.asks(hall, "most (0-7)/(0-2)", 3);
        check.asks(hall, "most (0-8)/2", -4);
        check.asks(hall, "most 5/0", 0);
        check.asks(hall, "most (0-5)/0", 0);
        check.asks(hall, "most 0/5", 0);
        check.asks(hall, "most 1000*1000", 1000000);
        check.asks(hall, "most 1000*1000+1", 1000000);
        check.asks(hall, "most 1000*1000+1-1", 999999);
        check.asks(hall, "most 1000*1001-1", 999999);
        check.asks(hall, "most 0-1000*1000-1", -1000000);
        check.asks(hall, "most 0-1000*1000-1+1", -999999);
        check.asks(hall, "most 9999*9999*(0-9999)", -1000000);
        check.asks(hall, "most 9999*9999*(9999*9999)", 1000000);
        check.asks(hall, "most 9999*9999/9999", 100);
        check.asks(hall, "most min(3,4)", 3);
        check.asks(hall, "most max ( 3 , 4 )", 4);
        check.asks(hall, "most min(3+4,2*3)+max(1,0-1)", 7);
        check.asks(hall, "most max(second,100)", 200);
        check.asks(hall, "least max(second,100)", 100);
        check.asks(hall, "most 0005", 5);
    }

    private static void faults(Check check) {
        StrokeHall hall = Check.told(TEXT);
        check.askFault(hall, 1, "^");
        check.askFault(hall, 1, " \n^");
        check.askFault(hall, 1, "^x 1");
        check.askFault(hall, 1, "^firsts all");
        check.askFault(hall, 1, "^5");
        check.askFault(hall, 1, "^all");
        check.askFault(hall, 1, "first^");
        check.askFault(hall, 1, "total ^all");
        check.askFault(hall, 1, "total ^not 1");
        check.askFault(hall, 1, "total ^[1]");
        check.askFault(hall, 1, "total ^-1");
        check.askFault(hall, 1, "total 1^<2");
        check.askFault(hall, 1, "total^5");
        check.askFault(hall, 1, "total 5^second");
        check.askFault(hall, 1, "total 5 ^second");
        check.askFault(hall, 1, "total 5 ^5");
        check.askFault(hall, 1, "total 1234^5");
        check.askFault(hall, 1, "total 5 ^12345");
        check.askFault(hall, 1, "total 5+^");
        check.askFault(hall, 1, "total 5+^+5");
        check.askFault(hall, 1, "total (5^");
        check.askFault(hall, 1, "total (5^]");
        check.askFault(hall, 1, "total (^)");
        check.askFault(hall, 1, "total 5^)");
        check.askFault(hall, 1, "total 5^;");
        check.askFault(hall, 1, "total ^hall");
        check.askFault(hall, 1, "total ^seconds");
        check.askFault(hall, 1, "total ^Second");
        check.askFault(hall, 1, "total ^\u00ff");
        check.askFault(hall, 1, "total at^");
        check.askFault(hall, 1, "total at^0");
        check.askFault(hall, 1, "total at ^-1");
        check.askFault(hall, 1, "total min ^5");
        check.askFault(hall, 1, "total min(5^)");
        check.askFault(hall, 1, "total min(5,5^,5)");
        check.askFault(hall, 1, "total min(5 ^5)");
        check.askFault(hall, 1, "total max(5,^)");
        check.askFault(hall, 1, "first 5^");
        check.askFault(hall, 1, "first 5 ^and all");
        check.askFault(hall, 1, "first (5)^");
        check.askFault(hall, 1, "first (5^<6)");
        check.askFault(hall, 1, "first 5<6^<7");
        check.askFault(hall, 1, "first 5<^=6");
        check.askFault(hall, 1, "first 5<6^or all");
        check.askFault(hall, 1, "first [all^");
        check.askFault(hall, 1, "first [all^)");
        check.askFault(hall, 1, "first [^]");
        check.askFault(hall, 1, "first all ^all");
        check.askFault(hall, 1, "first all or^");
        check.askFault(hall, 1, "first all or ^or all");
        check.askFault(hall, 1, "first all^=all");
        check.askFault(hall, 1, "first not^");
        check.askFault(hall, 1, "first all^\t");
        check.asks(hall, "often all", 201);
    }

    private static void depths(Check check) {
        StrokeHall hall = Check.told(TEXT);
        check.asks(hall, "most ((((((5))))))", 5);
        check.askFault(hall, 4, "most ((((((^(5)))))))");
        check.asks(hall, "often [[[[[[all]]]]]]", 201);
        check.askFault(hall, 4, "often [[[[[[^[all");
        check.asks(hall, "often not not not not not not all", 201);
        check.askFault(hall, 4, "often not not not not not not ^not all");
        check.asks(hall, "most at at at at at at 0", 99);
        check.askFault(hall, 4, "most at at at at at at ^at 0");
        check.asks(hall, "often does does does does does does 9 < 5", 201);
        check.askFault(hall, 4, "most does does does does does does ^does 0");
        check.asks(hall, "often [not [not at (0) = 6]]", 9);
        check.askFault(hall, 4, "often [not [not at (^(0)) = 6]]");
        check.asks(hall, "most min(min(min(min(min(min(5,6),7),8),9),9),9)", 5);
        check.askFault(hall, 4, "most min(max(min(min(min(min(min^(5,6),7),8),9),9),9),9)");
        check.asks(hall, "most max(1,max(2,max(3,max(4,max(5,max(6,7))))))", 7);
        check.askFault(hall, 4, "most max(1,max(2,max(3,max(4,max(5,max(6,^(7)))))))");
        // Each ends where what it opens ends.
        check.asks(hall, "most (1)+(1)+(1)+(1)+(1)+(1)+(1)+at 0-at 0", 7);
        check.asks(hall, "often not all or not all or not all or not all or not all or not all or not all", 0);
        check.asks(hall, "often [all] and [all] and [all] and [all] and [all] and [all] and [all]", 201);
        check.asks(hall, "most does 0*0+does 0*0+does 0*0+does 0*0+does 0*0+does 0*0+does 0*0", 0);
        check.asks(hall, "most at (((((5)))))", 99);
        check.askFault(hall, 4, "most at (((((^(5))))))");
        check.asks(hall, "often not not not not not (1)=1 and (1)=1", 0);
        check.askFault(hall, 4, "often not not not not not not ^(1)=1");
        check.asks(hall, "often not not not not not not 1=1 and (1)=1", 201);
        // Where it is not asked it is no 7th, but a fault of the first kind.
        check.askFault(hall, 1, "most ((((((5 ^(");
        check.askFault(hall, 1, "most ((((((^[");
        check.askFault(hall, 1, "most ((((((^not");
    }

    private static void withoutHall(Check check) {
        StrokeHall hall = new StrokeHall();
        Check.tape(hall, "x");
        hall.text();
        Check.tape(hall, "often all");
        check.due("ask() without a hall", hall.ask(), StrokeHall.NOTHING);
        check.due("fault(0) stays", hall.fault(0), 1);
        check.due("fault(1) stays", hall.fault(1), 0);
        check.due("the tape goes", hall.end(1), false);
        Check.tape(hall, "total (((((((");
        check.due("a fault without a hall", hall.ask(), StrokeHall.NOTHING);
        check.due("fault(0) stays still", hall.fault(0), 1);
    }

    private static void ofTheMorningNow(Check check) {
        StrokeHall hall = Check.told(TEXT);
        check.asks(hall, "first does 0 = 2", 5);
        hall.set(0, 0, 64);
        check.asks(hall, "first does 0 = 2", 9);
        hall.undo();
        check.asks(hall, "first does 0 = 2", 5);
        hall.come(2);
        check.asks(hall, "first does 0 = 2", NONE);
        check.asks(hall, "most waits", 1);
        hall.come(4);
        check.asks(hall, "last does 2 = 3", 7);
        hall.close(1, true);
        check.asks(hall, "last does 2 = 3", 11);
        hall.odds();
        check.asks(hall, "last does 2 = 3", 11);
        check.askFault(hall, 1, "^nothing");
        check.due("hall(4) stays", hall.hall(4), 1);
    }
}
