/** At eleven exactly, under the clock: a hall told as a text, and who opens an umbrella in it. */
public final class StrokeHall {
    public static final int NONE = -1;
    public static final long NOTHING = -1000000000000000L;

    private static final int SECONDS = 201;
    private static final int TAPE = 1600;
    private static final int STATEMENTS = 70;
    private static final int CELLS = 54;
    private static final int WALLS = 15;
    private static final int DOORS = 6;
    private static final int PEOPLE = 9;
    private static final int GUARDS = 4;
    private static final int STEPS = 12;
    private static final int LETTERS = 6;
    private static final int ACTS = 20;
    private static final int EARLIEST = 60;
    private static final int OCTETS = 3 * PEOPLE + DOORS + 1;

    private final Tape tape;
    private final Words words;
    private final HallReader reader;
    private final Question question;
    private final Strokes strokes;
    private final Morning morning;
    private final WouldBe wouldBe;
    private final Acts acts;
    private final int[] octets;
    private int octetCount;
    private Hall hall;
    private Hall draft;
    private int comers;
    private int seed;
    private int fault;
    private int place;
    private boolean walksOld;
    private boolean morningOld;

    public StrokeHall() {
        tape = new Tape();
        words = new Words(tape);
        reader = new HallReader(words);
        question = new Question(words);
        strokes = new Strokes();
        morning = new Morning();
        wouldBe = new WouldBe(strokes);
        acts = new Acts();
        octets = new int[OCTETS];
        octetCount = 0;
        hall = new Hall();
        draft = new Hall();
        comers = 0;
        seed = 1;
        fault = 0;
        place = NONE;
        walksOld = true;
        morningOld = true;
    }

    public int feed(int a, int b, int c, int d, int e) {
        if (!tape.hasRoom(20)) {
            return NONE;
        }
        tape.addNumber(a);
        tape.addNumber(b);
        tape.addNumber(c);
        tape.addNumber(d);
        tape.addNumber(e);
        return tape.length;
    }

    public boolean end(int n) {
        return tape.cutTo(n);
    }

    public int text() {
        boolean fine = reader.read(draft);
        takeFault();
        tape.cutTo(0);
        if (!fine) {
            return NONE;
        }
        Hall former = hall;
        hall = draft;
        draft = former;
        comers = hall.people.all();
        acts.forget();
        changed(true);
        return reader.statements;
    }

    public int fault(int what) {
        switch (what) {
            case 0: return fault;
            case 1: return place;
            default: return NONE;
        }
    }

    public int hall(int what) {
        switch (what) {
            case 0: return hall.wide;
            case 1: return hall.high;
            case 2: return hall.wallCells();
            case 3: return hall.doors;
            case 4: return hall.closedDoors();
            case 5: return hall.people.size;
            case 6: return hall.guards;
            case 7: return hall.stroke;
            case 8: return hall.open;
            case 9: return hall.near;
            case 10: return hall.enough;
            case 11: return comers;
            case 12: return acts.size;
            default: return NONE;
        }
    }

    public int letter(int kind, int which, int k) {
        if (k < 0 || k >= LETTERS) {
            return NONE;
        }
        if (kind == 0 && hall.people.has(which)) {
            return letterOf(get(hall.people.name, which), k);
        }
        if (kind == 1 && hall.hasGuard(which)) {
            return letterOf(get(hall.guardName, which), k);
        }
        return NONE;
    }

    public int person(int person, int what) {
        People people = hall.people;
        if (!people.has(person)) {
            return NONE;
        }
        switch (what) {
            case 0: return get(people.cell, person);
            case 1: return get(people.watch, person);
            case 2: return get(people.dares, person);
            case 3: return get(people.comes, person);
            case 4: return hasBit(people.passers, person) ? 1 : 0;
            case 5: return get(people.stepCount, person);
            default: return NONE;
        }
    }

    public int guard(int guard, int what) {
        if (!hall.hasGuard(guard)) {
            return NONE;
        }
        switch (what) {
            case 0: return get(hall.guardCell, guard);
            case 1: return get(hall.guardSees, guard);
            case 2: return get(hall.guardLooks, guard);
            default: return NONE;
        }
    }

    public int door(int door, int what) {
        if (!hall.hasDoor(door)) {
            return NONE;
        }
        switch (what) {
            case 0: return get(hall.doorCell, door);
            case 1: return get(hall.closed, door);
            case 2: return freshMorning().outBy(door);
            case 3: return freshMorning().lastOutBy(door);
            default: return NONE;
        }
    }

    // ---- a morning

    public int where(int person, int second) {
        if (!isSecond(second) || !isComer(person)) {
            return NONE;
        }
        return freshMorning().cellOf(person, second);
    }

    public int does(int person, int what) {
        if (!isComer(person)) {
            return NONE;
        }
        Morning now = freshMorning();
        switch (what) {
            case 0: return get(now.opens, person);
            case 1: return get(now.outs, person);
            case 2: return get(now.how, person);
            case 3: return get(now.outDoor, person);
            default: return NONE;
        }
    }

    public int count(int second, int what) {
        if (!isSecond(second) || what < 0 || what > 3) {
            return NONE;
        }
        return freshMorning().howMany(second, Morning.OPEN_ONES + what);
    }

    public int whole(int what) {
        if (!hall.isTold()) {
            return NONE;
        }
        Morning now = freshMorning();
        switch (what) {
            case 0: return now.alarm;
            case 1: return now.alarmGuard;
            case 2: return now.peak();
            case 3: return now.howMany(now.peak(), Morning.OPEN_ONES);
            case 4: return now.firstWith(hall.enough) == NONE ? 0 : 1;
            case 5: return now.firstWith(hall.enough);
            case 6: return now.openersOf(hall.people.passers);
            case 7: return now.lastOut();
            case 8: return now.openersAhead(hall.stroke);
            default: return NONE;
        }
    }

    // ---- acts

    public int set(int person, int what, int n) {
        if (!hall.people.has(person) || !hall.mayBe(what, n)) {
            return NONE;
        }
        int former = hall.people.valueOf(person, what);
        acts.add(what, person, former);
        hall.people.change(person, what, n);
        changed(what == People.CELL);
        return former;
    }

    public boolean close(int door, boolean is) {
        int closed = is ? 1 : 0;
        if (!hall.hasDoor(door) || get(hall.closed, door) == closed) {
            return false;
        }
        acts.add(Acts.DOOR, door, 1 - closed);
        put(hall.closed, door, closed);
        changed(false);
        return true;
    }

    public boolean undo() {
        if (acts.size == 0) {
            return false;
        }
        acts.takeBack(hall);
        changed(true);
        return true;
    }

    public boolean come(int bits) {
        if ((bits & ~hall.people.all()) != 0) {
            return false;
        }
        comers = bits;
        changed(false);
        return true;
    }

    public int lot() {
        int bits = 0;
        for (int p = 0; p < hall.people.size; p++) {
            if (draw(4) < get(hall.people.comes, p)) {
                bits |= 1 << p;
            }
        }
        comers = bits;
        changed(false);
        return bits;
    }

    public boolean seed(int seed) {
        if (seed < 0) {
            return false;
        }
        this.seed = seed;
        return true;
    }

    // ---- what would be

    public int odds() {
        if (!hall.isTold()) {
            return NONE;
        }
        freshWalks();
        return wouldBe.thousandths(hall);
    }

    public int spark(int person) {
        if (!hasWatch(person)) {
            return NONE;
        }
        freshWalks();
        return wouldBe.sparked(hall, comers, person);
    }

    public int daring(int what) {
        if (what < 0 || what > 1) {
            return NONE;
        }
        freshWalks();
        int bits = wouldBe.fewestDaring(hall, comers);
        return what == 0 && bits != NONE ? Integer.bitCount(bits) : bits;
    }

    public int late(int person) {
        if (!hasWatch(person)) {
            return NONE;
        }
        freshWalks();
        return wouldBe.latest(hall, comers, person);
    }

    public int post(int guard, int what) {
        if (!hall.hasGuard(guard) || what < 0 || what > 1) {
            return NONE;
        }
        freshWalks();
        wouldBe.findPost(hall, comers, guard);
        return what == 0 ? wouldBe.postCell : wouldBe.postAlarm;
    }

    public long ask() {
        if (!hall.isTold()) {
            tape.cutTo(0);
            return NOTHING;
        }
        boolean fine = question.read();
        takeFault();
        tape.cutTo(0);
        return fine ? question.answer(freshMorning()) : NOTHING;
    }

    // ---- images

    public int image() {
        octetCount = hall.imageLength();
        hall.writeImage(octets);
        return octetCount;
    }

    public int octet(int k) {
        return k >= 0 && k < octetCount ? get(octets, k) : NONE;
    }

    public boolean on() {
        boolean fine = hall.isTold() && hall.isImage(tape);
        if (fine) {
            hall.takeImage(tape);
            acts.forget();
            changed(true);
        }
        tape.cutTo(0);
        return fine;
    }

    private void takeFault() {
        fault = words.fault;
        place = words.place;
    }

    private void changed(boolean walks) {
        walksOld = walksOld || walks;
        morningOld = true;
    }

    private void freshWalks() {
        if (walksOld) {
            strokes.prepare(hall);
            walksOld = false;
        }
    }

    private Morning freshMorning() {
        if (morningOld) {
            freshWalks();
            morning.tell(hall, strokes, comers);
            morningOld = false;
        }
        return morning;
    }

    private boolean isComer(int person) {
        return hall.people.has(person) && hasBit(comers, person);
    }

    private boolean hasWatch(int person) {
        return isComer(person) && !hasBit(hall.people.passers, person);
    }

    private int draw(int m) {
        seed = (1103515245 * seed + 12345) & 0x7fffffff;
        return m > 0 ? seed / 64 % m : 0;
    }

    private static boolean isSecond(int second) {
        return second >= 0 && second < SECONDS;
    }

    private static boolean hasBit(int bits, int k) {
        return k >= 0 && k < 31 && ((bits >> k) & 1) == 1;
    }

    private static int get(int[] row, int k) {
        return k >= 0 && k < row.length ? row[k] : NONE;
    }

    private static void put(int[] row, int k, int value) {
        if (k >= 0 && k < row.length) {
            row[k] = value;
        }
    }

    /** A name is one number, five bits a letter, so that two names are the same if the numbers are. */
    private static int letterOf(int name, int k) {
        return (name >> (5 * (LETTERS - 1 - k))) & 31;
    }

    /** The bytes that wait to be a text, a question or an image. */
    private static final class Tape {
        private final int[] bytes;
        private int length;

        Tape() {
            bytes = new int[TAPE];
            length = 0;
        }

        boolean hasRoom(int more) {
            return length + more <= TAPE;
        }

        void addNumber(int number) {
            for (int shift = 24; shift >= 0; shift -= 8) {
                put(bytes, length, (number >> shift) & 255);
                length++;
            }
        }

        boolean cutTo(int n) {
            if (n < 0 || n > length) {
                return false;
            }
            length = n;
            return true;
        }

        int byteAt(int k) {
            return k >= 0 && k < length && k < bytes.length ? bytes[k] : NONE;
        }
    }

    /** The tape word by word, and the first fault that was found in it. */
    private static final class Words {
        private static final int END = 0;
        private static final int WORD = 1;
        private static final int NUMBER = 2;
        private static final int SIGN = 3;
        private static final int STUCK = 4;
        private static final int DIGITS = 4;

        private final Tape tape;
        private int kind;
        private int start;
        private int stop;
        private int fault;
        private int place;

        Words(Tape tape) {
            this.tape = tape;
            kind = END;
            start = 0;
            stop = 0;
            fault = 0;
            place = NONE;
        }

        void begin() {
            fault = 0;
            place = NONE;
            kind = SIGN;
            stop = 0;
            next();
        }

        void next() {
            int before = kind;
            int behind = stop;
            start = behind;
            while (start < tape.length && isBlank(tape.byteAt(start))) {
                start++;
            }
            kind = kindOf(tape.byteAt(start));
            stop = kind == END ? start : start + 1;
            if (kind == WORD || kind == NUMBER) {
                while (stop < tape.length && kindOf(tape.byteAt(stop)) == kind) {
                    stop++;
                }
            }
            if (start == behind && (before == WORD && kind == NUMBER || before == NUMBER && kind == WORD)) {
                // No reader asks for this kind, so the missing blank is a fault at this word.
                kind = STUCK;
            }
        }

        private static boolean isBlank(int octet) {
            return octet == 10 || octet == 32;
        }

        private static int kindOf(int octet) {
            if (octet == NONE) {
                return END;
            }
            if (octet >= 'a' && octet <= 'z') {
                return WORD;
            }
            return octet >= '0' && octet <= '9' ? NUMBER : SIGN;
        }

        boolean fail(int what, int where) {
            if (fault == 0) {
                fault = what;
                place = where;
            }
            return false;
        }

        boolean unasked() {
            return fail(1, start);
        }

        int letters() {
            return stop - start;
        }

        int byteIn(int k) {
            return tape.byteAt(start + k);
        }

        /** Which of the words of a list (each with a blank behind it) stands here, NONE for none of them. */
        int find(String list) {
            if (kind != WORD) {
                return NONE;
            }
            int number = 0;
            int k = 0;
            boolean same = true;
            for (int i = 0; i < list.length(); i++) {
                char c = list.charAt(i);
                if (c == ' ') {
                    if (same && k == letters()) {
                        return number;
                    }
                    number++;
                    k = 0;
                    same = true;
                } else {
                    same = same && tape.byteAt(start + k) == c;
                    k++;
                }
            }
            return NONE;
        }

        boolean isSign(char sign) {
            return kind == SIGN && tape.byteAt(start) == sign;
        }

        boolean takeSign(char sign) {
            if (!isSign(sign)) {
                return unasked();
            }
            next();
            return true;
        }

        boolean takeWord(String one) {
            if (find(one) != 0) {
                return unasked();
            }
            next();
            return true;
        }

        /** The number that stands here, NONE with a fault; one that can't be has its fault at a place told. */
        int takeNumber(int least, int most, int where) {
            if (kind != NUMBER) {
                unasked();
                return NONE;
            }
            if (letters() > DIGITS) {
                fail(1, start + DIGITS);
                return NONE;
            }
            int n = 0;
            for (int k = 0; k < letters(); k++) {
                n = 10 * n + tape.byteAt(start + k) - '0';
            }
            if (n < least || n > most) {
                fail(2, where);
                return NONE;
            }
            next();
            return n;
        }
    }

    /** Reads the text of a hall, statement by statement. */
    private static final class HallReader {
        private static final String OWN =
            "hall wall door person guard stroke open near enough at slow dares comes walks passer sees looks ";
        private static final int HALL = 0;
        private static final int WALL = 1;
        private static final int DOOR = 2;
        private static final int PERSON = 3;
        private static final int GUARD = 4;
        private static final int STROKE = 5;
        private static final int OPEN = 6;
        private static final int NEAR = 7;
        private static final int ENOUGH = 8;

        private final Words words;
        private int statements;

        HallReader(Words words) {
            this.words = words;
            statements = 0;
        }

        boolean read(Hall hall) {
            hall.clear();
            statements = 0;
            words.begin();
            while (statements < STATEMENTS && words.kind != Words.END) {
                if (!takeStatement(hall)) {
                    return false;
                }
                statements++;
            }
            if (words.kind != Words.END) {
                return words.fail(5, words.start);
            }
            if (statements == 0) {
                return words.unasked();
            }
            hall.findNearCells();
            return true;
        }

        private boolean takeStatement(Hall hall) {
            int kind = words.find(OWN);
            if (kind < HALL || kind > ENOUGH || (kind == HALL) != (statements == 0)) {
                return words.unasked();
            }
            if (isFull(hall, kind)) {
                return words.fail(5, words.start);
            }
            words.next();
            boolean fine;
            switch (kind) {
                case HALL:
                    fine = takeSize(hall);
                    break;
                case WALL:
                    fine = takeWall(hall);
                    break;
                case DOOR:
                    fine = takeDoor(hall);
                    break;
                case PERSON:
                    fine = takePerson(hall);
                    break;
                case GUARD:
                    fine = takeGuard(hall);
                    break;
                default:
                    fine = takeRule(hall, kind);
                    break;
            }
            return fine && words.takeSign(';');
        }

        private static boolean isFull(Hall hall, int kind) {
            switch (kind) {
                case WALL: return hall.wallsTold >= WALLS;
                case DOOR: return hall.doors >= DOORS;
                case PERSON: return hall.people.size >= PEOPLE;
                case GUARD: return hall.guards >= GUARDS;
                default: return false;
            }
        }

        private int numberBehind(String word, int least, int most) {
            return words.takeWord(word) ? words.takeNumber(least, most, words.start) : NONE;
        }

        private boolean takeSize(Hall hall) {
            hall.wide = words.takeNumber(2, 9, words.start);
            if (hall.wide == NONE) {
                return false;
            }
            hall.high = words.takeNumber(2, 6, words.start);
            return hall.high != NONE;
        }

        private boolean takeRule(Hall hall, int kind) {
            switch (kind) {
                case STROKE:
                    hall.stroke = words.takeNumber(1, 99, words.start);
                    return hall.stroke != NONE;
                case OPEN:
                    hall.open = words.takeNumber(1, 30, words.start);
                    return hall.open != NONE;
                case NEAR:
                    hall.near = words.takeNumber(1, 5, words.start);
                    return hall.near != NONE;
                default:
                    hall.enough = words.takeNumber(1, 9, words.start);
                    return hall.enough != NONE;
            }
        }

        private int takeCell(Hall hall, int kind) {
            int across = words.takeNumber(0, hall.wide - 1, words.start);
            if (across == NONE) {
                return NONE;
            }
            int where = words.start;
            int down = words.takeNumber(0, hall.high - 1, where);
            if (down == NONE) {
                return NONE;
            }
            int cell = down * hall.wide + across;
            if (!mayStand(hall, kind, cell)) {
                words.fail(2, where);
                return NONE;
            }
            return cell;
        }

        /** A wall may stand in a wall: only the number of those told is held. */
        private static boolean mayStand(Hall hall, int kind, int cell) {
            switch (kind) {
                case WALL: return hall.doorIn(cell) == NONE && !hall.isTaken(cell);
                case DOOR: return hall.doorIn(cell) == NONE && hall.isFree(cell);
                default: return hall.isFree(cell);
            }
        }

        private boolean takeWall(Hall hall) {
            int cell = takeCell(hall, WALL);
            if (cell == NONE) {
                return false;
            }
            put(hall.wall, cell, 1);
            hall.wallsTold++;
            return true;
        }

        private boolean takeDoor(Hall hall) {
            int cell = takeCell(hall, DOOR);
            if (cell == NONE) {
                return false;
            }
            put(hall.doorCell, hall.doors, cell);
            put(hall.closed, hall.doors, 0);
            hall.doors++;
            return true;
        }

        private int takeName(Hall hall) {
            if (words.kind != Words.WORD || words.find(OWN) != NONE) {
                words.unasked();
                return NONE;
            }
            if (words.letters() > LETTERS) {
                words.fail(1, words.start + LETTERS);
                return NONE;
            }
            int name = 0;
            for (int k = 0; k < LETTERS; k++) {
                name = 32 * name + (k < words.letters() ? words.byteIn(k) - 'a' + 1 : 0);
            }
            if (hall.hasName(name)) {
                words.fail(3, words.start);
                return NONE;
            }
            words.next();
            return name;
        }

        private boolean takePerson(Hall hall) {
            People people = hall.people;
            int person = people.size;
            int name = takeName(hall);
            if (name == NONE || !words.takeWord("at ")) {
                return false;
            }
            int cell = takeCell(hall, PERSON);
            if (cell == NONE || !takeSlow(people, person)) {
                return false;
            }
            int dares = numberBehind("dares ", 0, 9);
            if (dares == NONE) {
                return false;
            }
            int comes = numberBehind("comes ", 0, 4);
            if (comes == NONE || !takeSteps(people, person)) {
                return false;
            }
            put(people.name, person, name);
            put(people.cell, person, cell);
            put(people.dares, person, dares);
            put(people.comes, person, comes);
            if (words.find("passer ") == 0) {
                people.passers |= 1 << person;
                words.next();
            }
            people.size++;
            return true;
        }

        private boolean takeSlow(People people, int person) {
            if (!words.takeWord("slow ")) {
                return false;
            }
            int where = words.start;
            boolean ahead = words.isSign('-');
            if (ahead) {
                words.next();
            }
            int slow = words.takeNumber(0, EARLIEST, where);
            if (slow == NONE) {
                return false;
            }
            put(people.watch, person, ahead ? EARLIEST - slow : EARLIEST + slow);
            return true;
        }

        private boolean takeSteps(People people, int person) {
            if (!words.takeWord("walks ")) {
                return false;
            }
            int count = words.letters();
            if (words.kind != Words.WORD || count > STEPS) {
                return words.unasked();
            }
            for (int k = 0; k < count; k++) {
                int way = wayOf(words.byteIn(k));
                if (way == NONE) {
                    return words.unasked();
                }
                put(people.steps, person * STEPS + k, way);
            }
            put(people.stepCount, person, count);
            words.next();
            return true;
        }

        private static int wayOf(int letter) {
            switch (letter) {
                case 'n': return Hall.NORTH;
                case 'e': return Hall.EAST;
                case 's': return Hall.SOUTH;
                case 'w': return Hall.WEST;
                case 'x': return Hall.NOWHERE;
                default: return NONE;
            }
        }

        private boolean takeGuard(Hall hall) {
            int name = takeName(hall);
            if (name == NONE || !words.takeWord("at ")) {
                return false;
            }
            int cell = takeCell(hall, GUARD);
            if (cell == NONE) {
                return false;
            }
            int sees = numberBehind("sees ", 1, 9);
            if (sees == NONE) {
                return false;
            }
            int looks = numberBehind("looks ", 1, 20);
            if (looks == NONE) {
                return false;
            }
            put(hall.guardName, hall.guards, name);
            put(hall.guardCell, hall.guards, cell);
            put(hall.guardSees, hall.guards, sees);
            put(hall.guardLooks, hall.guards, looks);
            hall.guards++;
            return true;
        }
    }

    /** The people who were asked, a row for each thing told of them. */
    private static final class People {
        private static final int WATCH = 0;
        private static final int DARES = 1;
        private static final int CELL = 2;

        private final int[] name;
        private final int[] cell;
        private final int[] watch;
        private final int[] dares;
        private final int[] comes;
        private final int[] stepCount;
        private final int[] steps;
        private int passers;
        private int size;

        People() {
            name = new int[PEOPLE];
            cell = new int[PEOPLE];
            watch = new int[PEOPLE];
            dares = new int[PEOPLE];
            comes = new int[PEOPLE];
            stepCount = new int[PEOPLE];
            steps = new int[PEOPLE * STEPS];
            passers = 0;
            size = 0;
        }

        boolean has(int person) {
            return person >= 0 && person < size;
        }

        int all() {
            return (1 << size) - 1;
        }

        private int[] rowOf(int what) {
            switch (what) {
                case WATCH: return watch;
                case DARES: return dares;
                default: return cell;
            }
        }

        int valueOf(int person, int what) {
            return get(rowOf(what), person);
        }

        void change(int person, int what, int n) {
            put(rowOf(what), person, n);
        }

        int stepOf(int person, int number) {
            int count = get(stepCount, person);
            return count > 0 ? get(steps, person * STEPS + number % count) : NONE;
        }
    }

    /** A hall as its text told it, with what acts have changed since. */
    private static final class Hall {
        private static final int NORTH = 0;
        private static final int EAST = 1;
        private static final int SOUTH = 2;
        private static final int WEST = 3;
        private static final int NOWHERE = 4;

        private final People people;
        private final int[] wall;
        private final int[] doorCell;
        private final int[] closed;
        private final int[] guardName;
        private final int[] guardCell;
        private final int[] guardSees;
        private final int[] guardLooks;
        private final long[] nearCells;
        private int wide;
        private int high;
        private int wallsTold;
        private int doors;
        private int guards;
        private int stroke;
        private int open;
        private int near;
        private int enough;

        Hall() {
            people = new People();
            wall = new int[CELLS];
            doorCell = new int[DOORS];
            closed = new int[DOORS];
            guardName = new int[GUARDS];
            guardCell = new int[GUARDS];
            guardSees = new int[GUARDS];
            guardLooks = new int[GUARDS];
            nearCells = new long[CELLS];
            clear();
        }

        void clear() {
            people.size = 0;
            people.passers = 0;
            for (int cell = 0; cell < CELLS; cell++) {
                put(wall, cell, 0);
            }
            wide = 0;
            high = 0;
            wallsTold = 0;
            doors = 0;
            guards = 0;
            stroke = 60;
            open = 20;
            near = 1;
            enough = 3;
        }

        boolean isTold() {
            return wide > 0;
        }

        int cells() {
            return wide * high;
        }

        boolean isFree(int cell) {
            return cell >= 0 && cell < cells() && get(wall, cell) == 0;
        }

        boolean hasGuard(int guard) {
            return guard >= 0 && guard < guards;
        }

        boolean hasDoor(int door) {
            return door >= 0 && door < doors;
        }

        int wallCells() {
            int walls = 0;
            for (int cell = 0; cell < cells(); cell++) {
                walls += get(wall, cell);
            }
            return walls;
        }

        int closedDoors() {
            int many = 0;
            for (int door = 0; door < doors; door++) {
                many += get(closed, door);
            }
            return many;
        }

        int doorIn(int cell) {
            for (int door = 0; door < doors; door++) {
                if (get(doorCell, door) == cell) {
                    return door;
                }
            }
            return NONE;
        }

        int openDoorIn(int cell) {
            int door = doorIn(cell);
            return door != NONE && get(closed, door) == 0 ? door : NONE;
        }

        /** Whether one of the people or a guard stands there. */
        boolean isTaken(int cell) {
            for (int p = 0; p < people.size; p++) {
                if (get(people.cell, p) == cell) {
                    return true;
                }
            }
            for (int g = 0; g < guards; g++) {
                if (get(guardCell, g) == cell) {
                    return true;
                }
            }
            return false;
        }

        boolean hasName(int name) {
            for (int p = 0; p < people.size; p++) {
                if (get(people.name, p) == name) {
                    return true;
                }
            }
            for (int g = 0; g < guards; g++) {
                if (get(guardName, g) == name) {
                    return true;
                }
            }
            return false;
        }

        int across(int cell) {
            return wide > 0 ? cell % wide : 0;
        }

        int down(int cell) {
            return wide > 0 ? cell / wide : 0;
        }

        int distance(int one, int other) {
            return Math.abs(across(one) - across(other)) + Math.abs(down(one) - down(other));
        }

        /** The cell to which a step leads, NONE off the hall or into a wall. */
        int stepFrom(int cell, int way) {
            int a = across(cell) + (way == EAST ? 1 : way == WEST ? -1 : 0);
            int d = down(cell) + (way == SOUTH ? 1 : way == NORTH ? -1 : 0);
            if (a < 0 || a >= wide || d < 0 || d >= high) {
                return NONE;
            }
            return isFree(d * wide + a) ? d * wide + a : NONE;
        }

        /** Cells are 54 at most, so a long has a bit for each of them. */
        long cellsAround(int cell, int far) {
            long bits = 0;
            for (int other = 0; other < cells(); other++) {
                if (distance(cell, other) <= far) {
                    bits |= 1L << other;
                }
            }
            return bits;
        }

        void findNearCells() {
            for (int cell = 0; cell < cells() && cell < nearCells.length; cell++) {
                nearCells[cell] = cellsAround(cell, near);
            }
        }

        boolean isNear(int cell, int other) {
            return cell >= 0 && cell < nearCells.length && ((nearCells[cell] >> other) & 1) == 1;
        }

        boolean mayBe(int what, int n) {
            switch (what) {
                case People.WATCH: return n >= 0 && n <= 2 * EARLIEST;
                case People.DARES: return n >= 0 && n <= 9;
                case People.CELL: return isFree(n);
                default: return false;
            }
        }

        int imageLength() {
            return 3 * people.size + doors + 1;
        }

        private static int checkWith(int check, int octet) {
            return (3 * check + octet) % 253;
        }

        void writeImage(int[] octets) {
            int last = imageLength() - 1;
            int check = 151;
            for (int k = 0; k < last; k++) {
                int person = k / 3;
                int octet = person < people.size
                    ? people.valueOf(person, k % 3) : get(closed, k - 3 * people.size);
                put(octets, k, octet);
                check = checkWith(check, octet);
            }
            put(octets, last, check);
        }

        boolean isImage(Tape tape) {
            int last = imageLength() - 1;
            if (tape.length != last + 1) {
                return false;
            }
            int check = 151;
            for (int k = 0; k < last; k++) {
                int octet = tape.byteAt(k);
                boolean fine = k / 3 < people.size ? mayBe(k % 3, octet) : octet == 0 || octet == 1;
                if (!fine) {
                    return false;
                }
                check = checkWith(check, octet);
            }
            return tape.byteAt(last) == check;
        }

        void takeImage(Tape tape) {
            for (int k = 0; k < imageLength() - 1; k++) {
                int person = k / 3;
                if (person < people.size) {
                    people.change(person, k % 3, tape.byteAt(k));
                } else {
                    put(closed, k - 3 * people.size, tape.byteAt(k));
                }
            }
        }
    }

    /** Who opens when, of some who come; it can be run again and again for what would be. */
    private static final class Strokes {
        private static final int BY_WATCH = 1;
        private static final int BY_SIGHT = 2;

        private final int[] walk;
        private final int[] sight;
        private final int[] strikes;
        private final int[] opens;
        private final int[] stands;
        private final int[] how;
        private int waiting;
        private int open;
        private int hits;
        private int alarm;
        private int alarmGuard;

        Strokes() {
            walk = new int[PEOPLE * SECONDS];
            sight = new int[GUARDS * SECONDS];
            strikes = new int[PEOPLE];
            opens = new int[PEOPLE];
            stands = new int[PEOPLE];
            how = new int[PEOPLE];
            waiting = 0;
            open = 0;
            hits = 0;
            alarm = NONE;
            alarmGuard = NONE;
        }

        /** Where all would be if they did nothing but wait, and whom of them each guard would see. */
        void prepare(Hall hall) {
            for (int p = 0; p < hall.people.size; p++) {
                fillWalk(hall, p);
            }
            for (int g = 0; g < hall.guards; g++) {
                fillSight(hall, g, SECONDS);
            }
        }

        private void fillWalk(Hall hall, int person) {
            int cell = get(hall.people.cell, person);
            put(walk, person * SECONDS, cell);
            for (int t = 1; t < SECONDS; t++) {
                int to = hall.stepFrom(cell, hall.people.stepOf(person, t - 1));
                cell = to == NONE ? cell : to;
                put(walk, person * SECONDS + t, cell);
            }
        }

        void fillSight(Hall hall, int guard, int until) {
            long around = hall.cellsAround(get(hall.guardCell, guard), get(hall.guardSees, guard));
            for (int t = 0; t < until; t++) {
                int seen = 0;
                for (int p = 0; p < hall.people.size; p++) {
                    if (((around >> walkCell(p, t)) & 1) == 1) {
                        seen |= 1 << p;
                    }
                }
                put(sight, guard * SECONDS + t, seen);
            }
        }

        int walkCell(int person, int second) {
            return get(walk, person * SECONDS + second);
        }

        void run(Hall hall, int comers, boolean onlyTillItComesOff) {
            int first = findFirst(hall, comers);
            findAlarm(hall, comers, first);
            openAll(hall, comers, first, onlyTillItComesOff);
        }

        /** What comes of the first strike and the alarm that were found. */
        void openAll(Hall hall, int comers, int first, boolean onlyTillItComesOff) {
            waiting = comers;
            open = 0;
            hits = 0;
            for (int p = 0; p < PEOPLE; p++) {
                put(opens, p, NONE);
                put(how, p, 0);
            }
            if (alarm != NONE) {
                // Behind it no watch counts, and as nobody is open there is nothing to see: nobody opens.
                return;
            }
            for (int t = first; t < SECONDS; t++) {
                goOn(hall, t);
                if (onlyTillItComesOff && hits != 0) {
                    return;
                }
                if (open == 0) {
                    // With nobody to be seen, nothing is until the next watch strikes.
                    t = Math.max(t, nextStrike(hall) - 1);
                }
            }
        }

        private int nextStrike(Hall hall) {
            int next = SECONDS;
            for (int p = 0; p < hall.people.size; p++) {
                if (hasBit(waiting, p)) {
                    next = Math.min(next, get(strikes, p));
                }
            }
            return next;
        }

        /** When each one's watch strikes, never a passer's: the first of those who come, behind all if there is none. */
        int findFirst(Hall hall, int comers) {
            int first = SECONDS;
            for (int p = 0; p < hall.people.size; p++) {
                int strike = SECONDS;
                if (!hasBit(hall.people.passers, p)) {
                    strike = Math.max(1, hall.stroke + get(hall.people.watch, p) - EARLIEST);
                }
                put(strikes, p, strike);
                if (hasBit(comers, p)) {
                    first = Math.min(first, strike);
                }
            }
            return first;
        }

        /** Guards look up only ahead of the first who opens, and until then all only walk. */
        void findAlarm(Hall hall, int comers, int until) {
            alarm = NONE;
            alarmGuard = NONE;
            for (int t = 0; t < until && alarm == NONE; t++) {
                for (int g = 0; g < hall.guards && alarm == NONE; g++) {
                    int seen = Integer.bitCount(get(sight, g * SECONDS + t) & comers);
                    if (seen >= get(hall.guardLooks, g)) {
                        alarm = t;
                        alarmGuard = g;
                    }
                }
            }
        }

        private void goOn(Hall hall, int second) {
            int ahead = open;
            for (int p = 0; p < hall.people.size; p++) {
                int bit = 1 << p;
                if ((waiting & bit) != 0) {
                    int by = opensBy(hall, p, second, ahead);
                    if (by != 0) {
                        put(opens, p, second);
                        put(stands, p, get(walk, p * SECONDS + second - 1));
                        put(how, p, by);
                        waiting &= ~bit;
                        open |= bit;
                    }
                } else if ((ahead & bit) != 0 && second >= get(opens, p) + hall.open) {
                    open &= ~bit;
                }
            }
            if (Integer.bitCount(open) >= hall.enough) {
                hits |= open;
            }
        }

        private int opensBy(Hall hall, int person, int second, int ahead) {
            if (second >= get(strikes, person)) {
                return BY_WATCH;
            }
            int dares = get(hall.people.dares, person);
            if (dares <= 0 || dares > Integer.bitCount(ahead)) {
                return 0;
            }
            int cell = get(walk, person * SECONDS + second - 1);
            int seen = 0;
            for (int q = 0; q < hall.people.size; q++) {
                if (hasBit(ahead, q) && hall.isNear(cell, get(stands, q))) {
                    seen++;
                }
            }
            return seen >= dares ? BY_SIGHT : 0;
        }
    }

    /** The morning as all is now, second by second. */
    private static final class Morning {
        private static final int AWAY = 0;
        private static final int WAITS = 1;
        private static final int IS_OPEN = 2;
        private static final int GOES = 3;
        private static final int IS_OUT = 4;
        private static final int OPEN_ONES = 0;
        private static final int WAITING_ONES = 1;
        private static final int GOING_ONES = 2;
        private static final int OUT_ONES = 3;

        private final int[] cells;
        private final int[] many;
        private final int[] opens;
        private final int[] how;
        private final int[] outs;
        private final int[] outDoor;
        private final int[] toDoor;
        private final int[] queue;
        private int comers;
        private int openFor;
        private int alarm;
        private int alarmGuard;

        Morning() {
            cells = new int[PEOPLE * SECONDS];
            many = new int[4 * SECONDS];
            opens = new int[PEOPLE];
            how = new int[PEOPLE];
            outs = new int[PEOPLE];
            outDoor = new int[PEOPLE];
            toDoor = new int[CELLS];
            queue = new int[CELLS];
            comers = 0;
            openFor = 0;
            alarm = NONE;
            alarmGuard = NONE;
        }

        void tell(Hall hall, Strokes strokes, int who) {
            strokes.run(hall, who, false);
            comers = who;
            openFor = hall.open;
            alarm = strokes.alarm;
            alarmGuard = strokes.alarmGuard;
            for (int k = 0; k < many.length; k++) {
                many[k] = 0;
            }
            findWays(hall);
            for (int p = 0; p < PEOPLE; p++) {
                put(opens, p, get(strokes.opens, p));
                put(how, p, get(strokes.how, p));
                put(outs, p, NONE);
                put(outDoor, p, NONE);
                if (hasBit(comers, p)) {
                    follow(hall, strokes, p);
                }
            }
        }

        /** How many steps each cell is from the nearest door that is not closed, NONE if it reaches none. */
        private void findWays(Hall hall) {
            int found = 0;
            for (int cell = 0; cell < CELLS; cell++) {
                put(toDoor, cell, NONE);
            }
            for (int door = 0; door < hall.doors; door++) {
                if (get(hall.closed, door) == 0) {
                    put(toDoor, get(hall.doorCell, door), 0);
                    put(queue, found, get(hall.doorCell, door));
                    found++;
                }
            }
            for (int k = 0; k < found && k < CELLS; k++) {
                int cell = get(queue, k);
                for (int way = Hall.NORTH; way <= Hall.WEST; way++) {
                    int to = hall.stepFrom(cell, way);
                    if (to != NONE && get(toDoor, to) == NONE) {
                        put(toDoor, to, get(toDoor, cell) + 1);
                        put(queue, found, to);
                        found++;
                    }
                }
            }
        }

        private void follow(Hall hall, Strokes strokes, int person) {
            int cell = strokes.walkCell(person, 0);
            for (int t = 0; t < SECONDS; t++) {
                int doing = doingOf(person, t);
                if (doing == WAITS) {
                    cell = strokes.walkCell(person, t);
                } else if (doing == GOES) {
                    // Doors need no look at the alarm: with one nobody opens, so nobody ever goes.
                    int door = hall.openDoorIn(cell);
                    if (door != NONE) {
                        put(outs, person, t);
                        put(outDoor, person, door);
                        cell = NONE;
                        doing = IS_OUT;
                    } else {
                        cell = nearer(hall, cell);
                    }
                }
                put(cells, person * SECONDS + t, cell);
                int k = onesOf(doing) * SECONDS + t;
                put(many, k, get(many, k) + 1);
            }
        }

        private static int onesOf(int doing) {
            switch (doing) {
                case WAITS: return WAITING_ONES;
                case IS_OPEN: return OPEN_ONES;
                case GOES: return GOING_ONES;
                default: return OUT_ONES;
            }
        }

        private int nearer(Hall hall, int cell) {
            int steps = get(toDoor, cell);
            for (int way = Hall.NORTH; way <= Hall.WEST; way++) {
                int to = hall.stepFrom(cell, way);
                if (to != NONE && steps != NONE && get(toDoor, to) < steps) {
                    return to;
                }
            }
            return cell;
        }

        int doingOf(int person, int second) {
            if (person < 0 || !hasBit(comers, person)) {
                return AWAY;
            }
            int opened = get(opens, person);
            if (opened == NONE || second < opened) {
                return WAITS;
            }
            if (second < opened + openFor) {
                return IS_OPEN;
            }
            int out = get(outs, person);
            return out == NONE || second < out ? GOES : IS_OUT;
        }

        int cellOf(int person, int second) {
            return hasBit(comers, person) ? get(cells, person * SECONDS + second) : NONE;
        }

        int howMany(int second, int ones) {
            return get(many, ones * SECONDS + second);
        }

        int peak() {
            int peak = 0;
            for (int t = 1; t < SECONDS; t++) {
                if (howMany(t, OPEN_ONES) > howMany(peak, OPEN_ONES)) {
                    peak = t;
                }
            }
            return peak;
        }

        int firstWith(int enough) {
            for (int t = 0; t < SECONDS; t++) {
                if (howMany(t, OPEN_ONES) >= enough) {
                    return t;
                }
            }
            return NONE;
        }

        int openersOf(int bits) {
            int openers = 0;
            for (int p = 0; p < PEOPLE; p++) {
                if (hasBit(bits, p) && get(opens, p) != NONE) {
                    openers++;
                }
            }
            return openers;
        }

        int openersAhead(int second) {
            int openers = 0;
            for (int p = 0; p < PEOPLE; p++) {
                if (get(opens, p) != NONE && get(opens, p) < second) {
                    openers++;
                }
            }
            return openers;
        }

        int lastOut() {
            int last = NONE;
            for (int p = 0; p < PEOPLE; p++) {
                last = Math.max(last, get(outs, p));
            }
            return last;
        }

        int outBy(int door) {
            int many = 0;
            for (int p = 0; p < PEOPLE; p++) {
                if (get(outDoor, p) == door) {
                    many++;
                }
            }
            return many;
        }

        int lastOutBy(int door) {
            int last = NONE;
            for (int p = 0; p < PEOPLE; p++) {
                if (get(outDoor, p) == door) {
                    last = Math.max(last, get(outs, p));
                }
            }
            return last;
        }
    }

    /** What would be: one thing in the hall is changed, run, and put back. */
    private static final class WouldBe {
        private final Strokes strokes;
        private final int[] ownDares;
        private int postCell;
        private int postAlarm;

        WouldBe(Strokes strokes) {
            this.strokes = strokes;
            ownDares = new int[PEOPLE];
            postCell = NONE;
            postAlarm = NONE;
        }

        private boolean comesOff(Hall hall, int comers) {
            if (Integer.bitCount(comers) < hall.enough) {
                return false;
            }
            strokes.run(hall, comers, true);
            return strokes.hits != 0;
        }

        int thousandths(Hall hall) {
            long fine = 0;
            for (int comers = 0; comers <= hall.people.all(); comers++) {
                long weight = weightOf(hall.people, comers);
                if (weight > 0 && comesOff(hall, comers)) {
                    fine += weight;
                }
            }
            return (int) (1000 * fine >> (2 * hall.people.size));
        }

        /** In how many of the 4 to the (how many people) ways just these come. */
        private static long weightOf(People people, int comers) {
            long weight = 1;
            for (int p = 0; p < people.size; p++) {
                int comes = get(people.comes, p);
                weight *= hasBit(comers, p) ? comes : 4 - comes;
            }
            return weight;
        }

        int sparked(Hall hall, int comers, int person) {
            int watch = get(hall.people.watch, person);
            put(hall.people.watch, person, 0);
            strokes.run(hall, comers, false);
            put(hall.people.watch, person, watch);
            int many = 0;
            for (int p = 0; p < hall.people.size; p++) {
                int opened = get(strokes.opens, p);
                if (opened != NONE && opened < hall.stroke) {
                    many++;
                }
            }
            return many;
        }

        int fewestDaring(Hall hall, int comers) {
            int first = strokes.findFirst(hall, comers);
            strokes.findAlarm(hall, comers, first);
            if (strokes.alarm != NONE || Integer.bitCount(comers) < hall.enough) {
                return NONE;
            }
            for (int many = 0; many <= hall.people.size; many++) {
                for (int bits = 0; bits <= hall.people.all(); bits++) {
                    boolean asked = Integer.bitCount(bits) == many && (bits & ~comers) == 0;
                    if (asked && comesOffDaring(hall, comers, bits, first)) {
                        return bits;
                    }
                }
            }
            return NONE;
        }

        private boolean comesOffDaring(Hall hall, int comers, int bits, int first) {
            int[] dares = hall.people.dares;
            System.arraycopy(dares, 0, ownDares, 0, PEOPLE);
            for (int p = 0; p < hall.people.size; p++) {
                if (hasBit(bits, p)) {
                    put(dares, p, 1);
                }
            }
            strokes.openAll(hall, comers, first, true);
            System.arraycopy(ownDares, 0, dares, 0, PEOPLE);
            return strokes.hits != 0;
        }

        int latest(Hall hall, int comers, int person) {
            int watch = get(hall.people.watch, person);
            int latest = NONE;
            for (int n = 2 * EARLIEST; n >= 0 && latest == NONE; n--) {
                put(hall.people.watch, person, n);
                strokes.run(hall, comers, false);
                latest = hasBit(strokes.hits, person) ? n : NONE;
            }
            put(hall.people.watch, person, watch);
            return latest;
        }

        void findPost(Hall hall, int comers, int guard) {
            int own = get(hall.guardCell, guard);
            int until = strokes.findFirst(hall, comers);
            postCell = NONE;
            postAlarm = NONE;
            for (int cell = 0; cell < hall.cells(); cell++) {
                if (hall.isFree(cell)) {
                    put(hall.guardCell, guard, cell);
                    strokes.fillSight(hall, guard, until);
                    strokes.findAlarm(hall, comers, until);
                    if (strokes.alarm != NONE) {
                        // Only an alarm that is sooner is looked for in the cells behind it.
                        postCell = cell;
                        postAlarm = strokes.alarm;
                        until = postAlarm;
                    } else if (postCell == NONE) {
                        postCell = cell;
                    }
                }
            }
            put(hall.guardCell, guard, own);
            strokes.fillSight(hall, guard, SECONDS);
        }
    }

    /** What was ahead of each act, the latest last. */
    private static final class Acts {
        private static final int DOOR = 3;

        private final int[] kind;
        private final int[] which;
        private final int[] former;
        private int size;

        Acts() {
            kind = new int[ACTS];
            which = new int[ACTS];
            former = new int[ACTS];
            size = 0;
        }

        void forget() {
            size = 0;
        }

        void add(int what, int whose, int was) {
            if (size == ACTS) {
                System.arraycopy(kind, 1, kind, 0, ACTS - 1);
                System.arraycopy(which, 1, which, 0, ACTS - 1);
                System.arraycopy(former, 1, former, 0, ACTS - 1);
                size--;
            }
            put(kind, size, what);
            put(which, size, whose);
            put(former, size, was);
            size++;
        }

        void takeBack(Hall hall) {
            size--;
            int what = get(kind, size);
            if (what == DOOR) {
                put(hall.closed, get(which, size), get(former, size));
            } else {
                hall.people.change(get(which, size), what, get(former, size));
            }
        }
    }

    /** Reads a question into a program, and answers it second by second. */
    private static final class Question {
        private static final String ASKED = "first last often total most least ";
        private static final int FIRST = 0;
        private static final int LAST = 1;
        private static final int OFTEN = 2;
        private static final int TOTAL = 3;
        private static final int MOST = 4;
        private static final String PARTS = "second open waits goes outs alarm at does min max ";
        private static final int DEEPEST = 6;

        private final Words words;
        private final Program program;
        private int asked;

        Question(Words words) {
            this.words = words;
            program = new Program();
            asked = NONE;
        }

        boolean read() {
            program.clear();
            words.begin();
            asked = words.find(ASKED);
            if (asked == NONE) {
                return words.unasked();
            }
            words.next();
            boolean fine = asked <= OFTEN ? takeTest(0) : takeSum(0);
            return fine && (words.kind == Words.END || words.unasked());
        }

        private boolean deeper(int depth) {
            return depth < DEEPEST || words.fail(4, words.start);
        }

        private boolean takeTest(int depth) {
            if (!takeBoth(depth)) {
                return false;
            }
            for (int k = 0; k < TAPE && words.find("or ") == 0; k++) {
                words.next();
                if (!takeBoth(depth)) {
                    return false;
                }
                program.add(Program.OR, 0);
            }
            return true;
        }

        private boolean takeBoth(int depth) {
            if (!takeFact(depth)) {
                return false;
            }
            for (int k = 0; k < TAPE && words.find("and ") == 0; k++) {
                words.next();
                if (!takeFact(depth)) {
                    return false;
                }
                program.add(Program.AND, 0);
            }
            return true;
        }

        private boolean takeFact(int depth) {
            if (words.find("not ") == 0) {
                if (!deeper(depth)) {
                    return false;
                }
                words.next();
                if (!takeFact(depth + 1)) {
                    return false;
                }
                program.add(Program.NOT, 0);
                return true;
            }
            if (words.isSign('[')) {
                if (!deeper(depth)) {
                    return false;
                }
                words.next();
                return takeTest(depth + 1) && words.takeSign(']');
            }
            if (words.find("all ") == 0) {
                words.next();
                program.add(Program.NUMBER, 1);
                return true;
            }
            return takeComparison(depth);
        }

        private boolean takeComparison(int depth) {
            if (!takeSum(depth)) {
                return false;
            }
            int op = words.isSign('<') ? Program.LESS
                : words.isSign('>') ? Program.MORE
                : words.isSign('=') ? Program.SAME : NONE;
            if (op == NONE) {
                return words.unasked();
            }
            words.next();
            if (!takeSum(depth)) {
                return false;
            }
            program.add(op, 0);
            return true;
        }

        private boolean takeSum(int depth) {
            if (!takeProduct(depth)) {
                return false;
            }
            for (int k = 0; k < TAPE && (words.isSign('+') || words.isSign('-')); k++) {
                int op = words.isSign('+') ? Program.PLUS : Program.MINUS;
                words.next();
                if (!takeProduct(depth)) {
                    return false;
                }
                program.add(op, 0);
            }
            return true;
        }

        private boolean takeProduct(int depth) {
            if (!takePart(depth)) {
                return false;
            }
            for (int k = 0; k < TAPE && (words.isSign('*') || words.isSign('/')); k++) {
                int op = words.isSign('*') ? Program.TIMES : Program.OVER;
                words.next();
                if (!takePart(depth)) {
                    return false;
                }
                program.add(op, 0);
            }
            return true;
        }

        private boolean takePart(int depth) {
            if (words.kind == Words.NUMBER) {
                int n = words.takeNumber(0, 9999, words.start);
                program.add(Program.NUMBER, n);
                return n != NONE;
            }
            if (words.isSign('(')) {
                return takeOpening(depth) && takeSum(depth + 1) && words.takeSign(')');
            }
            int op = words.find(PARTS);
            if (op == NONE) {
                return words.unasked();
            }
            if (op == Program.AT || op == Program.DOES) {
                if (!deeper(depth)) {
                    return false;
                }
                words.next();
                if (!takePart(depth + 1)) {
                    return false;
                }
            } else {
                words.next();
                if (op >= Program.MIN && !takePair(depth)) {
                    return false;
                }
            }
            program.add(op, 0);
            return true;
        }

        private boolean takePair(int depth) {
            return takeOpening(depth) && takeSum(depth + 1)
                && words.takeSign(',') && takeSum(depth + 1) && words.takeSign(')');
        }

        private boolean takeOpening(int depth) {
            if (!words.isSign('(')) {
                return words.unasked();
            }
            if (!deeper(depth)) {
                return false;
            }
            words.next();
            return true;
        }

        long answer(Morning morning) {
            switch (asked) {
                case FIRST: return firstTrue(morning);
                case LAST: return lastTrue(morning);
                case OFTEN: return howOften(morning);
                case TOTAL: return total(morning);
                default: return extreme(morning, asked == MOST);
            }
        }

        private long firstTrue(Morning morning) {
            for (int t = 0; t < SECONDS; t++) {
                if (program.run(morning, t) != 0) {
                    return t;
                }
            }
            return NONE;
        }

        private long lastTrue(Morning morning) {
            for (int t = SECONDS - 1; t >= 0; t--) {
                if (program.run(morning, t) != 0) {
                    return t;
                }
            }
            return NONE;
        }

        private long howOften(Morning morning) {
            long often = 0;
            for (int t = 0; t < SECONDS; t++) {
                if (program.run(morning, t) != 0) {
                    often++;
                }
            }
            return often;
        }

        private long total(Morning morning) {
            long total = 0;
            for (int t = 0; t < SECONDS; t++) {
                total += program.run(morning, t);
            }
            return total;
        }

        private long extreme(Morning morning, boolean greatest) {
            long best = program.run(morning, 0);
            for (int t = 1; t < SECONDS; t++) {
                long value = program.run(morning, t);
                best = greatest ? Math.max(best, value) : Math.min(best, value);
            }
            return best;
        }
    }

    /** A question's parts in the order in which they are worked out, and the numbers that wait. */
    private static final class Program {
        private static final int SECOND = 0;
        private static final int OPEN = 1;
        private static final int WAITS = 2;
        private static final int GOES = 3;
        private static final int OUTS = 4;
        private static final int ALARM = 5;
        private static final int AT = 6;
        private static final int DOES = 7;
        private static final int MIN = 8;
        private static final int MAX = 9;
        private static final int PLUS = 10;
        private static final int MINUS = 11;
        private static final int TIMES = 12;
        private static final int OVER = 13;
        private static final int LESS = 14;
        private static final int MORE = 15;
        private static final int SAME = 16;
        private static final int AND = 17;
        private static final int OR = 18;
        private static final int NOT = 19;
        private static final int NUMBER = 20;
        private static final int GREATEST = 1000000;
        private static final int STACK = 64;
        private static final int PACK = 10000;

        private final int[] parts;
        private final int[] stack;
        private int size;
        private int top;

        Program() {
            parts = new int[TAPE];
            stack = new int[STACK];
            size = 0;
            top = 0;
        }

        void clear() {
            size = 0;
        }

        void add(int op, int n) {
            put(parts, size, op * PACK + n);
            size++;
        }

        private void push(int n) {
            put(stack, top, n);
            top++;
        }

        private int pop() {
            top--;
            return get(stack, top);
        }

        int run(Morning morning, int second) {
            top = 0;
            for (int k = 0; k < size && k < TAPE; k++) {
                int part = get(parts, k);
                int op = part / PACK;
                if (op == NUMBER) {
                    push(part % PACK);
                } else if (op <= ALARM) {
                    push(plain(morning, second, op));
                } else if (op == AT || op == DOES || op == NOT) {
                    push(ofOne(morning, second, op, pop()));
                } else {
                    int right = pop();
                    int left = pop();
                    push(ofTwo(op, left, right));
                }
            }
            return pop();
        }

        private static int plain(Morning morning, int second, int op) {
            switch (op) {
                case SECOND: return second;
                case OPEN: return morning.howMany(second, Morning.OPEN_ONES);
                case WAITS: return morning.howMany(second, Morning.WAITING_ONES);
                case GOES: return morning.howMany(second, Morning.GOING_ONES);
                case OUTS: return morning.howMany(second, Morning.OUT_ONES);
                default: return morning.alarm != NONE && second >= morning.alarm ? 1 : 0;
            }
        }

        private static int ofOne(Morning morning, int second, int op, int n) {
            if (op == NOT) {
                return n == 0 ? 1 : 0;
            }
            if (op == DOES) {
                return morning.doingOf(n, second);
            }
            int cell = morning.cellOf(n, second);
            return cell == NONE ? 99 : cell;
        }

        private static int ofTwo(int op, int left, int right) {
            switch (op) {
                case MIN: return Math.min(left, right);
                case MAX: return Math.max(left, right);
                case PLUS: return held((long) left + right);
                case MINUS: return held((long) left - right);
                case TIMES: return held((long) left * right);
                case OVER: return right == 0 ? 0 : Math.floorDiv(left, right);
                case LESS: return left < right ? 1 : 0;
                case MORE: return left > right ? 1 : 0;
                case SAME: return left == right ? 1 : 0;
                case AND: return left & right;
                default: return left | right;
            }
        }

        private static int held(long n) {
            return (int) Math.max(-GREATEST, Math.min(GREATEST, n));
        }
    }
}
