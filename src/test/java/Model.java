import java.util.ArrayList;
import java.util.List;
import java.util.Random;

/** A hall held plainly, and its mornings told second by second as the document says them, without any short cut. */
final class Model {
    static final int NONE = -1;
    static final int WAITS = 1;
    static final int OPEN = 2;
    static final int GOES = 3;
    static final int OUT = 4;

    static final class Person {
        String name;
        int cell;
        int slow;
        int dares;
        int comes;
        String steps;
        boolean passer;
    }

    static final class Guard {
        String name;
        int cell;
        int sees;
        int looks;
    }

    /** One morning: for each second and person what he does and where he is. */
    static final class Day {
        int[][] doing = new int[201][9];
        int[][] cell = new int[201][9];
        int[] opens = new int[9];
        int[] how = new int[9];
        int[] outs = new int[9];
        int[] outDoor = new int[9];
        int alarm = NONE;
        int alarmGuard = NONE;

        int many(int second, int what) {
            int many = 0;
            for (int p = 0; p < 9; p++) {
                many += doing[second][p] == what ? 1 : 0;
            }
            return many;
        }

        boolean comesOff(Model m) {
            for (int t = 0; t <= 200; t++) {
                if (many(t, OPEN) >= m.enough) {
                    return true;
                }
            }
            return false;
        }

        int openAhead(int second) {
            int many = 0;
            for (int o : opens) {
                many += o != NONE && o < second ? 1 : 0;
            }
            return many;
        }
    }

    int wide;
    int high;
    boolean[] wall;
    List<Integer> doors = new ArrayList<>();
    List<Boolean> closed = new ArrayList<>();
    List<Person> people = new ArrayList<>();
    List<Guard> guards = new ArrayList<>();
    int stroke = 60;
    int open = 20;
    int near = 1;
    int enough = 3;
    String text;

    static Model random(Random r) {
        Model m = new Model();
        m.wide = 2 + r.nextInt(8);
        m.high = 2 + r.nextInt(5);
        int cells = m.wide * m.high;
        m.wall = new boolean[cells];
        StringBuilder text = new StringBuilder("hall " + m.wide + " " + m.high + ";");
        int walls = r.nextInt(r.nextBoolean() ? 16 : 4);
        for (int k = 0; k < walls; k++) {
            int cell = r.nextInt(cells);
            int free = 0;
            for (boolean w : m.wall) {
                free += w ? 0 : 1;
            }
            if (free > 1) {
                m.wall[cell] = true;
                text.append("wall ").append(m.cell(cell)).append(";");
            }
        }
        int doors = r.nextInt(5);
        for (int k = 0; k < doors; k++) {
            int cell = m.free(r);
            if (!m.doors.contains(cell)) {
                m.doors.add(cell);
                m.closed.add(false);
                text.append("door ").append(m.cell(cell)).append(" ;");
            }
        }
        m.addPeople(r, text);
        m.addGuards(r, text);
        m.addRules(r, text);
        m.text = text.toString();
        return m;
    }

    private void addPeople(Random r, StringBuilder text) {
        int many = r.nextInt(10);
        boolean close = r.nextBoolean();
        for (int k = 0; k < many; k++) {
            Person p = new Person();
            p.name = "p" + (char) ('a' + k);
            p.cell = free(r);
            p.slow = close ? r.nextInt(9) - 4 : r.nextInt(121) - 60;
            p.dares = r.nextInt(r.nextBoolean() ? 3 : 10);
            p.comes = r.nextInt(5);
            p.passer = r.nextInt(4) == 0;
            StringBuilder steps = new StringBuilder();
            int count = 1 + r.nextInt(12);
            for (int i = 0; i < count; i++) {
                steps.append("neswx".charAt(r.nextInt(5)));
            }
            p.steps = steps.toString();
            people.add(p);
            text.append("person ").append(p.name).append(" at ").append(cell(p.cell)).append(" slow ")
                .append(p.slow < 0 ? "- " : "").append(Math.abs(p.slow)).append(" dares ").append(p.dares)
                .append(" comes ").append(p.comes).append(" walks ").append(p.steps)
                .append(p.passer ? " passer;" : ";");
        }
    }

    private void addGuards(Random r, StringBuilder text) {
        int many = r.nextInt(3) == 0 ? 1 + r.nextInt(4) : r.nextInt(2);
        for (int k = 0; k < many; k++) {
            Guard g = new Guard();
            g.name = "g" + (char) ('a' + k);
            g.cell = free(r);
            g.sees = 1 + r.nextInt(r.nextBoolean() ? 3 : 9);
            g.looks = 1 + r.nextInt(r.nextBoolean() ? 8 : 20);
            guards.add(g);
            text.append("guard ").append(g.name).append(" at ").append(cell(g.cell)).append(" sees ").append(g.sees)
                .append(" looks ").append(g.looks).append(";");
        }
    }

    private void addRules(Random r, StringBuilder text) {
        if (r.nextInt(4) > 0) {
            stroke = 1 + r.nextInt(r.nextBoolean() ? 10 : 99);
            text.append("stroke ").append(stroke).append(";");
        }
        if (r.nextInt(4) > 0) {
            open = 1 + r.nextInt(r.nextBoolean() ? 5 : 30);
            text.append("open ").append(open).append(";");
        }
        if (r.nextInt(4) > 0) {
            near = 1 + r.nextInt(5);
            text.append("near ").append(near).append(";");
        }
        if (r.nextInt(4) > 0) {
            enough = 1 + r.nextInt(r.nextBoolean() ? 3 : 9);
            text.append("enough ").append(enough).append(";");
        }
    }

    private String cell(int cell) {
        return cell % wide + " " + cell / wide;
    }

    int free(Random r) {
        while (true) {
            int cell = r.nextInt(wide * high);
            if (!wall[cell]) {
                return cell;
            }
        }
    }

    int distance(int a, int b) {
        return Math.abs(a % wide - b % wide) + Math.abs(a / wide - b / wide);
    }

    int step(int cell, char way) {
        int x = cell % wide + (way == 'e' ? 1 : way == 'w' ? -1 : 0);
        int y = cell / wide + (way == 's' ? 1 : way == 'n' ? -1 : 0);
        boolean fine = x >= 0 && x < wide && y >= 0 && y < high && !wall[y * wide + x];
        return fine ? y * wide + x : cell;
    }

    /** Steps from a cell to the nearest door that is not closed, by widening from the cell. */
    private int toDoor(int cell) {
        boolean[] seen = new boolean[wide * high];
        List<Integer> now = new ArrayList<>(List.of(cell));
        seen[cell] = true;
        for (int steps = 0; !now.isEmpty(); steps++) {
            List<Integer> then = new ArrayList<>();
            for (int c : now) {
                if (openDoor(c) != NONE) {
                    return steps;
                }
                for (char way : "nesw".toCharArray()) {
                    int to = step(c, way);
                    if (!seen[to]) {
                        seen[to] = true;
                        then.add(to);
                    }
                }
            }
            now = then;
        }
        return Integer.MAX_VALUE;
    }

    private int openDoor(int cell) {
        int door = doors.indexOf(cell);
        return door >= 0 && !closed.get(door) ? door : NONE;
    }

    Day day(int comers) {
        Day d = new Day();
        java.util.Arrays.fill(d.opens, NONE);
        java.util.Arrays.fill(d.outs, NONE);
        java.util.Arrays.fill(d.outDoor, NONE);
        boolean anyOpened = false;
        int[] stepsMade = new int[9];
        for (int t = 0; t <= 200; t++) {
            for (int p = 0; p < people.size(); p++) {
                if ((comers >> p & 1) == 0) {
                    continue;
                }
                if (t == 0) {
                    d.doing[0][p] = WAITS;
                    d.cell[0][p] = people.get(p).cell;
                } else {
                    anyOpened |= second(d, p, t, stepsMade);
                }
            }
            for (int g = 0; g < guards.size() && d.alarm == NONE && !anyOpened; g++) {
                if (looksUp(d, guards.get(g), t)) {
                    d.alarm = t;
                    d.alarmGuard = g;
                }
            }
        }
        return d;
    }

    private boolean looksUp(Day d, Guard g, int t) {
        int seen = 0;
        for (int p = 0; p < people.size(); p++) {
            seen += d.doing[t][p] == WAITS && distance(g.cell, d.cell[t][p]) <= g.sees ? 1 : 0;
        }
        return seen >= g.looks;
    }

    private boolean second(Day d, int p, int t, int[] stepsMade) {
        Person person = people.get(p);
        int was = d.doing[t - 1][p];
        int cell = d.cell[t - 1][p];
        d.doing[t][p] = was;
        d.cell[t][p] = cell;
        if (was == WAITS) {
            boolean quiet = d.alarm != NONE && d.alarm < t;
            int how = !person.passer && !quiet && t >= stroke + person.slow ? 1 : bySight(d, p, t) ? 2 : 0;
            if (how > 0) {
                d.doing[t][p] = OPEN;
                d.opens[p] = t;
                d.how[p] = how;
                return true;
            }
            d.cell[t][p] = step(cell, person.steps.charAt(stepsMade[p]++ % person.steps.length()));
        } else if (was == GOES || was == OPEN && t == d.opens[p] + open) {
            d.doing[t][p] = GOES;
            boolean shut = d.alarm != NONE && d.alarm < t;
            if (openDoor(cell) != NONE && !shut) {
                d.doing[t][p] = OUT;
                d.outs[p] = t;
                d.outDoor[p] = openDoor(cell);
                return false;
            }
            for (char way : "nesw".toCharArray()) {
                if (toDoor(step(cell, way)) < toDoor(cell)) {
                    d.cell[t][p] = step(cell, way);
                    break;
                }
            }
        }
        return false;
    }

    private boolean bySight(Day d, int p, int t) {
        int seen = 0;
        for (int q = 0; q < people.size(); q++) {
            seen += d.doing[t - 1][q] == OPEN && distance(d.cell[t - 1][p], d.cell[t - 1][q]) <= near ? 1 : 0;
        }
        return people.get(p).dares > 0 && seen >= people.get(p).dares;
    }

    int whole(Day d, int what) {
        int peak = 0;
        int first = NONE;
        for (int t = 0; t <= 200; t++) {
            peak = d.many(t, OPEN) > d.many(peak, OPEN) ? t : peak;
            first = first == NONE && d.many(t, OPEN) >= enough ? t : first;
        }
        int passers = 0;
        int lastOut = NONE;
        for (int p = 0; p < people.size(); p++) {
            passers += people.get(p).passer && d.opens[p] != NONE ? 1 : 0;
            lastOut = Math.max(lastOut, d.outs[p]);
        }
        int[] whole = {d.alarm, d.alarmGuard, peak, d.many(peak, OPEN), d.comesOff(this) ? 1 : 0, first, passers, lastOut,
            d.openAhead(stroke)};
        return what >= 0 && what < whole.length ? whole[what] : NONE;
    }

    int door(Day d, int door, int what) {
        int many = 0;
        int last = NONE;
        for (int p = 0; p < 9; p++) {
            many += d.outDoor[p] == door ? 1 : 0;
            last = d.outDoor[p] == door ? Math.max(last, d.outs[p]) : last;
        }
        int[] all = {doors.get(door), closed.get(door) ? 1 : 0, many, last};
        return what >= 0 && what < all.length ? all[what] : NONE;
    }

    int odds() {
        long sum = 0;
        for (int bits = 0; bits < 1 << people.size(); bits++) {
            long ways = 1;
            for (int p = 0; p < people.size(); p++) {
                ways *= (bits >> p & 1) == 1 ? people.get(p).comes : 4 - people.get(p).comes;
            }
            sum += ways > 0 && day(bits).comesOff(this) ? ways : 0;
        }
        return (int) (sum * 1000 / (1L << 2 * people.size()));
    }

    int spark(int comers, int p) {
        int slow = people.get(p).slow;
        people.get(p).slow = -60;
        int many = day(comers).openAhead(stroke);
        people.get(p).slow = slow;
        return many;
    }

    int late(int comers, int p) {
        int own = people.get(p).slow;
        int latest = NONE;
        for (int slow = -60; slow <= 60; slow++) {
            people.get(p).slow = slow;
            Day would = day(comers);
            for (int t = 0; t <= 200; t++) {
                if (would.doing[t][p] == OPEN && would.many(t, OPEN) >= enough) {
                    latest = slow + 60;
                }
            }
        }
        people.get(p).slow = own;
        return latest;
    }

    /** The bits of those who must dare. */
    int daring(int comers) {
        int best = NONE;
        for (int bits = 0; bits < 1 << people.size(); bits++) {
            boolean fewer = best == NONE || Integer.bitCount(bits) < Integer.bitCount(best);
            if ((bits & ~comers) != 0 || !fewer) {
                continue;
            }
            int[] own = new int[9];
            for (int p = 0; p < people.size(); p++) {
                own[p] = people.get(p).dares;
                people.get(p).dares = (bits >> p & 1) == 1 ? 1 : own[p];
            }
            best = day(comers).comesOff(this) ? bits : best;
            for (int p = 0; p < people.size(); p++) {
                people.get(p).dares = own[p];
            }
        }
        return best;
    }

    /** The cell of a guard's best post, and the alarm there. */
    int[] post(int comers, int g) {
        int own = guards.get(g).cell;
        int best = NONE;
        int soonest = 1000;
        for (int cell = 0; cell < wide * high; cell++) {
            if (!wall[cell]) {
                guards.get(g).cell = cell;
                int alarm = day(comers).alarm;
                int rank = alarm == NONE ? 999 : alarm;
                best = rank < soonest ? cell : best;
                soonest = Math.min(soonest, rank);
            }
        }
        guards.get(g).cell = own;
        return new int[] {best, soonest == 999 ? NONE : soonest};
    }
}
