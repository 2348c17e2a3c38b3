/** Promises 15 to 20: set, close, undo, come, lot and seed. */
public final class ActsTest {
    private static final int NONE = StrokeHall.NONE;
    private static final String TEXT = "hall 4 3;wall 3 2;door 0 0;door 3 0;"
        + "person a at 0 1 slow 7 dares 3 comes 1 walks x;person b at 2 2 slow -60 dares 0 comes 2 walks x passer;"
        + "person c at 1 1 slow 0 dares 1 comes 3 walks x;stroke 5;open 2;enough 1;";

    public static void main(String[] args) {
        Check check = new Check("ActsTest");
        sets(check);
        refuses(check);
        closes(check);
        undoes(check);
        undoesTwenty(check);
        comes(check);
        lots(check);
        seeds(check);
        check.finish();
    }

    private static void sets(Check check) {
        StrokeHall hall = Check.told(TEXT);
        check.due("opens at first", hall.does(0, 0), 12);
        check.due("set watch", hall.set(0, 0, 120), 67);
        check.due("opens then", hall.does(0, 0), 65);
        check.due("set watch 0", hall.set(0, 0, 0), 120);
        check.due("opens soon", hall.does(0, 0), 1);
        check.due("set daring", hall.set(1, 1, 9), 0);
        check.due("set daring again", hall.set(1, 1, 0), 9);
        check.due("set cell", hall.set(1, 2, 0), 10);
        check.due("where", hall.where(1, 0), 0);
        check.due("set cell of a door", hall.set(1, 2, 3), 0);
        check.due("set the watch of a passer", hall.set(1, 0, 60), 0);
        check.due("acts", hall.hall(12), 7);
        check.due("set what is", hall.set(2, 0, 60), 60);
        check.due("acts and one", hall.hall(12), 8);
        hall.come(0);
        check.due("set of one who does not come", hall.set(0, 1, 4), 3);
    }

    private static void refuses(Check check) {
        StrokeHall hall = Check.told(TEXT);
        int[][] none = {{0, 0, -1}, {0, 0, 121}, {0, 1, -1}, {0, 1, 10}, {0, 2, -1}, {0, 2, 12}, {0, 2, 11}, {0, 3, 0},
            {0, -1, 0}, {-1, 0, 0}, {3, 0, 0}, {Integer.MAX_VALUE, 0, 0}, {0, Integer.MAX_VALUE, 0},
            {0, 2, Integer.MAX_VALUE}, {0, 2, Integer.MIN_VALUE}};
        for (int[] n : none) {
            check.due("set(" + n[0] + ", " + n[1] + ", " + n[2] + ")", hall.set(n[0], n[1], n[2]), NONE);
        }
        check.due("no acts", hall.hall(12), 0);
        check.due("the watch stays", hall.person(0, 1), 67);
        check.due("daring stays", hall.person(0, 2), 3);
        check.due("the cell stays", hall.person(0, 0), 4);
    }

    private static void closes(Check check) {
        StrokeHall hall = Check.told(TEXT);
        check.due("open already", hall.close(0, false), false);
        check.due("no act", hall.hall(12), 0);
        check.due("where he goes out", hall.does(0, 3), 0);
        check.due("close", hall.close(0, true), true);
        check.due("close again", hall.close(0, true), false);
        check.due("closed", hall.hall(4), 1);
        check.due("one act", hall.hall(12), 1);
        check.due("where he goes out then", hall.does(0, 3), 1);
        check.due("open again", hall.close(0, false), true);
        check.due("two acts", hall.hall(12), 2);
        check.due("where he goes out again", hall.does(0, 3), 0);
        check.due("close(-1)", hall.close(-1, true), false);
        check.due("close(2)", hall.close(2, true), false);
        check.due("close(max)", hall.close(Integer.MAX_VALUE, true), false);
    }

    private static void undoes(Check check) {
        StrokeHall hall = Check.told(TEXT);
        check.due("nothing to undo", hall.undo(), false);
        hall.set(0, 0, 99);
        hall.set(0, 1, 8);
        hall.set(0, 2, 6);
        hall.close(1, true);
        hall.come(1);
        hall.seed(5);
        hall.set(0, 0, 98);
        check.due("acts", hall.hall(12), 5);
        check.due("undo watch", hall.undo(), true);
        check.due("watch", hall.person(0, 1), 99);
        check.due("undo close", hall.undo(), true);
        check.due("closed", hall.door(1, 1), 0);
        check.due("come is no act", hall.hall(11), 1);
        check.due("undo cell", hall.undo(), true);
        check.due("cell", hall.person(0, 0), 4);
        check.due("where", hall.where(0, 0), 4);
        check.due("undo daring", hall.undo(), true);
        check.due("daring", hall.person(0, 2), 3);
        check.due("undo the first watch", hall.undo(), true);
        check.due("the first watch", hall.person(0, 1), 67);
        check.due("acts left", hall.hall(12), 0);
        check.due("no more", hall.undo(), false);
    }

    private static void undoesTwenty(Check check) {
        StrokeHall hall = Check.told(TEXT);
        for (int k = 0; k < 23; k++) {
            hall.set(0, 0, k);
            check.due("acts behind " + k, hall.hall(12), Math.min(20, k + 1));
        }
        for (int k = 21; k >= 2; k--) {
            check.due("undo to " + k, hall.undo(), true);
            check.due("watch", hall.person(0, 1), k);
        }
        check.due("no more than 20", hall.undo(), false);
        check.due("watch of the third act", hall.person(0, 1), 2);
        mixedTwenty(check);
        cellAgain(check);
    }

    /** Acts of all kinds and of many people, more than twenty: each is undone as what it was. */
    private static void mixedTwenty(Check check) {
        StrokeHall hall = withActs(26);
        for (int k = 25; k >= 6; k--) {
            check.due("undo of act " + k, hall.undo(), true);
            String is = state(hall);
            String due = state(withActs(k));
            check.due(is + " is " + due, is.equals(due), true);
        }
        check.due("the first six stay", hall.undo(), false);
        check.due("state behind the first six", state(hall).equals(state(withActs(6))), true);
    }

    private static StrokeHall withActs(int many) {
        StrokeHall hall = Check.told(TEXT);
        for (int k = 0; k < many; k++) {
            switch (k % 4) {
                case 0: hall.set(k % 3, 0, k); break;
                case 1: hall.close(k / 4 % 2, !isClosed(hall, k / 4 % 2)); break;
                case 2: hall.set((k + 1) % 3, 2, k % 11); break;
                default: hall.set((k + 2) % 3, 1, k % 10); break;
            }
        }
        return hall;
    }

    private static boolean isClosed(StrokeHall hall, int door) {
        return hall.door(door, 1) == 1;
    }

    private static String state(StrokeHall hall) {
        StringBuilder text = new StringBuilder();
        int many = hall.image();
        for (int k = 0; k < many; k++) {
            text.append(hall.octet(k)).append(' ');
        }
        return text.toString();
    }

    private static void cellAgain(Check check) {
        StrokeHall hall = Check.told(TEXT);
        check.due("where at first", hall.where(0, 3), 4);
        hall.set(0, 2, 6);
        check.due("where then", hall.where(0, 3), 6);
        hall.undo();
        check.due("where again", hall.where(0, 3), 4);
    }

    private static void comes(Check check) {
        StrokeHall hall = Check.told(TEXT);
        check.due("come(8)", hall.come(8), false);
        check.due("come(-1)", hall.come(-1), false);
        check.due("come(min)", hall.come(Integer.MIN_VALUE), false);
        check.due("all still", hall.hall(11), 7);
        check.due("come(4)", hall.come(4), true);
        check.due("bits", hall.hall(11), 4);
        check.due("one waits", hall.count(0, 1), 1);
        check.due("come(0)", hall.come(0), true);
        check.due("none waits", hall.count(0, 1), 0);
        check.due("come(7)", hall.come(7), true);
        check.due("all wait", hall.count(0, 1), 3);
        check.due("no acts", hall.hall(12), 0);
    }

    /** The draws are worked out here in another way: with numbers wide enough, and a true remainder. */
    private static int lotBy(long[] seed, int... comes) {
        int bits = 0;
        for (int p = 0; p < comes.length; p++) {
            seed[0] = (1103515245L * seed[0] + 12345L) % 2147483648L;
            bits |= seed[0] / 64 % 4 < comes[p] ? 1 << p : 0;
        }
        return bits;
    }

    private static void lots(Check check) {
        StrokeHall hall = Check.told(TEXT);
        long[] seed = {1};
        for (int k = 0; k < 100; k++) {
            int due = lotBy(seed, 1, 2, 3);
            check.due("lot " + k, hall.lot(), due);
            check.due("who come", hall.hall(11), due);
        }
        check.due("no acts", hall.hall(12), 0);
        check.due("count of who come", hall.count(0, 1), Integer.bitCount(hall.hall(11)));
        StrokeHall sure = Check.told("hall 2 2;person a at 0 0 slow 0 dares 0 comes 4 walks x;"
            + "person b at 0 0 slow 0 dares 0 comes 0 walks x;");
        for (int k = 0; k < 20; k++) {
            check.due("comes 4 always, comes 0 never", sure.lot(), 1);
        }
    }

    private static void seeds(Check check) {
        int[] seeds = {0, 1, 7, 123456789, Integer.MAX_VALUE};
        for (int start : seeds) {
            StrokeHall hall = Check.told(TEXT);
            check.due("seed(" + start + ")", hall.seed(start), true);
            check.due("seed(-1)", hall.seed(-1), false);
            check.due("seed(min)", hall.seed(Integer.MIN_VALUE), false);
            long[] seed = {start};
            for (int k = 0; k < 20; k++) {
                check.due("lot of " + start, hall.lot(), lotBy(seed, 1, 2, 3));
            }
            Check.tape(hall, TEXT);
            hall.text();
            check.due("the seed stays with a text", hall.lot(), lotBy(seed, 1, 2, 3));
        }
        StrokeHall fresh = new StrokeHall();
        fresh.lot();
        fresh.seed(9);
        fresh.lot();
        Check.tape(fresh, TEXT);
        fresh.text();
        check.due("nobody draws nothing", fresh.lot(), lotBy(new long[] {9}, 1, 2, 3));
    }
}
