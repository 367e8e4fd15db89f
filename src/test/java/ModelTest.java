import java.util.ArrayList;
import java.util.List;
import java.util.Random;

/** Random houses and acts, all answers compared with those of a slow model that tries tick by tick and way by way. */
public final class ModelTest {
    private static final int FAR = Integer.MAX_VALUE;
    private final Random random;
    /** Calls that must still be free when some acts are told. */
    private static final int CALLS_AT_MOST = 512, SPARE = 40;
    private RoomsOfHours object = new RoomsOfHours();
    private int calls;
    private String text = "";
    private final List<int[]> rooms = new ArrayList<>();
    private final List<int[]> doors = new ArrayList<>();
    private final List<int[]> persons = new ArrayList<>();
    private final List<int[]> things = new ArrayList<>();
    private final List<int[]> acts = new ArrayList<>();
    private final List<int[]> sights = new ArrayList<>();
    private int crossing = 1;

    /** What has become of all by the acts, rooms being told their hours. */
    private final class World {
        final int[] hour = new int[rooms.size()];
        final int[] in = new int[persons.size()];
        final int[] tick = new int[persons.size()];
        final int[] age = new int[persons.size()];
        final int[] lies = new int[things.size()];
        final int[] holder = new int[things.size()];
        final int[] since = new int[things.size()];
        /** In 1/144 of hours: 144 times the ticks, by those of an hour (3 to 48, all in 144), are whole. */
        final int[] worn = new int[things.size()];
        /** person, room, from, to. */
        final List<int[]> visits = new ArrayList<>();
        final int[] visit = new int[persons.size()];

        World(int mended) {
            for (int r = 0; r < hour.length; r++) {
                hour[r] = r == mended ? 12 : 12 * rooms.get(r)[1] / rooms.get(r)[0];
            }
            for (int i = 0; i < in.length; i++) {
                in[i] = persons.get(i)[0];
                age[i] = persons.get(i)[1];
                visit[i] = visits.size();
                visits.add(new int[] {i, in[i], 0, 0});
            }
            for (int t = 0; t < lies.length; t++) {
                lies[t] = things.get(t)[0];
                holder[t] = -1;
            }
            for (int[] act : acts) {
                act(act[0], act[1], act[2]);
            }
        }

        boolean can(int kind, int i, int with) {
            switch (kind) {
                case 1: return doors.get(with)[0] == in[i] || doors.get(with)[1] == in[i];
                case 2: return holder[with] < 0 && lies[with] == in[i] && since[with] <= tick[i];
                case 3: return holder[with] == i;
                default: return true;
            }
        }

        void act(int kind, int i, int with) {
            if (!can(kind, i, with)) {
                return;
            }
            if (kind == 0) {
                hours(i, with);
            } else if (kind == 1) {
                hours(i, crossing);
                int[] door = doors.get(with);
                boolean along = door[0] == in[i];
                tick[i] += 12 * (along == (door[2] == 0) ? door[3] : -door[3]);
                in[i] = along ? door[1] : door[0];
                visit[i] = visits.size();
                visits.add(new int[] {i, in[i], tick[i], tick[i]});
            } else if (kind == 2) {
                worn[with] = wornAt(with, tick[i]);
                holder[with] = i;
            } else {
                holder[with] = -1;
                lies[with] = in[i];
                since[with] = tick[i];
            }
        }

        void hours(int i, int n) {
            for (int k = 0; k < n; k++) {
                tick[i] += hour[in[i]];
                age[i]++;
                for (int t = 0; t < worn.length; t++) {
                    worn[t] += holder[t] == i ? 144 : 0;
                }
            }
            visits.get(visit[i])[3] = tick[i];
        }

        int wornAt(int t, int at) {
            return worn[t] + exactly(144 * (at - since[t]), hour[lies[t]]);
        }

        int worth(int t, int parts) {
            int old = parts / 144;
            int n = things.get(t)[2];
            switch (things.get(t)[1]) {
                case 0: return n;
                case 1: return old > n ? 0 : n - old;
                case 2: return old < n ? 0 : 1;
                default: return old < n ? 1 : 0;
            }
        }

        boolean in(int i, int r, int at, int skipped) {
            for (int v = 0; v < visits.size(); v++) {
                int[] one = visits.get(v);
                if (v != skipped && one[0] == i && one[1] == r && one[2] <= at && at <= one[3]) {
                    return true;
                }
            }
            return false;
        }
    }

    private static int exactly(int above, int below) {
        if (above % below != 0) {
            throw new IllegalStateException("the model's parts are too coarse");
        }
        return above / below;
    }

    private ModelTest(long seed) {
        random = new Random(seed);
    }

    public static void main(String[] args) {
        for (int seed = 0; seed < 400; seed++) {
            ModelTest test = new ModelTest(seed);
            test.build();
            for (int n = 0; n < 4; n++) {
                test.actSome(random(test, 11));
                test.compare(seed);
            }
        }
        Due.end();
    }

    private static int random(ModelTest test, int bound) {
        return test.random.nextInt(bound);
    }

    private int below(int bound) {
        return random.nextInt(bound);
    }

    /** An object is used for 512 calls at most: behind that, another one to which the same has been told. */
    private RoomsOfHours x() {
        if (calls >= CALLS_AT_MOST - SPARE) {
            renew();
        }
        return toChange();
    }

    /** For calls that the model has done already: never a new object, to which they would have been told. */
    private RoomsOfHours toChange() {
        calls++;
        return object;
    }

    private void renew() {
        object = new RoomsOfHours();
        Due.type(object, text);
        object.lay();
        for (int[] act : acts) {
            act(object, act[0], act[1], act[2]);
        }
        for (int[] sight : sights) {
            object.seen(sight[0], sight[1], sight[2]);
        }
        calls = text.length() + 1 + acts.size() + sights.size();
    }

    private static int act(RoomsOfHours x, int kind, int i, int with) {
        return kind == 0 ? x.stay(i, with) : kind == 1 ? x.go(i, with) : kind == 2 ? x.take(i, with) : x.put(i, with);
    }

    private void build() {
        StringBuilder told = new StringBuilder();
        int howMany = 1 + below(6);
        for (int n = 0; n < howMany; n++) {
            add(rooms, told, 'r', 1 + below(4), 1 + below(4), below(24));
        }
        // Fewer doors than there may be where there are few rooms: the model tries all ways.
        int howManyDoors = howMany == 1 ? 0 : below(howMany == 2 ? 4 : howMany < 5 ? 5 : 8);
        for (int n = 0; n < howManyDoors; n++) {
            int a = below(howMany);
            int hours = random.nextBoolean() ? below(4) : below(25);
            add(doors, told, 'd', a, (a + 1 + below(howMany - 1)) % howMany, below(2), hours);
        }
        int howManyPersons = 1 + below(4);
        for (int n = 0; n < howManyPersons; n++) {
            add(persons, told, 'p', below(howMany), below(100));
        }
        int howManyThings = below(6);
        for (int n = 0; n < howManyThings; n++) {
            add(things, told, 't', below(howMany), below(4), 1 + below(random.nextBoolean() ? 9 : 99));
        }
        if (random.nextBoolean()) {
            crossing = below(4);
            told.append('w').append(crossing).append(';');
        }
        text = told.toString();
        renew();
        Due.due("count(0) of " + text, x().count(0), howMany);
    }

    private static void add(List<int[]> list, StringBuilder text, char letter, int... numbers) {
        text.append(letter);
        for (int n = 0; n < numbers.length; n++) {
            text.append(numbers[n]).append(n + 1 < numbers.length ? ',' : ';');
        }
        list.add(numbers);
    }

    private void actSome(int howMany) {
        Due.due("count(4)", x().count(4), acts.size());
        for (int n = 0; n < howMany; n++) {
            int kind = below(5) % 4;
            int i = below(persons.size());
            int most = kind == 0 ? 24 : kind == 1 ? doors.size() : things.size();
            if (most == 0) {
                continue;
            }
            int with = kind == 0 ? 1 + below(random.nextBoolean() ? 4 : most) : below(most);
            boolean can = new World(-1).can(kind, i, with);
            if (can) {
                acts.add(new int[] {kind, i, with});
            }
            World after = new World(-1);
            int has = 0;
            for (int t = 0; t < things.size(); t++) {
                has += after.holder[t] == i ? 1 : 0;
            }
            int due = !can ? Due.NO : kind < 2 ? 100000 + after.tick[i] : has;
            Due.due("act " + kind + ", " + i + ", " + with, act(toChange(), kind, i, with), due);
            if (below(8) == 0 && !acts.isEmpty()) {
                acts.remove(acts.size() - 1);
                Due.due("undo()", toChange().undo(), acts.size());
            }
        }
    }

    private void compare(int seed) {
        String of = " of seed " + seed;
        World w = new World(-1);
        comparePersons(w, of);
        compareThings(w, of);
        compareMeetings(w, of);
        compareWays(w, of);
        compareRounds(w, of);
        compareHours(w, of);
        comparePaces(of);
        compareMended(w, of);
    }

    private void comparePersons(World w, String of) {
        for (int i = 0; i < persons.size(); i++) {
            Due.due("person(" + i + ", 0)" + of, x().person(i, 0), w.in[i]);
            Due.due("person(" + i + ", 1)" + of, x().person(i, 1), 100000 + w.tick[i]);
            Due.due("person(" + i + ", 2)" + of, x().person(i, 2), w.age[i]);
            int bits = 0;
            for (int t = 0; t < things.size(); t++) {
                bits += w.holder[t] == i ? 1 << t : 0;
            }
            Due.due("person(" + i + ", 3)" + of, x().person(i, 3), bits);
            int visits = 0;
            for (int[] visit : w.visits) {
                visits += visit[0] == i ? 1 : 0;
            }
            Due.due("person(" + i + ", 4)" + of, x().person(i, 4), visits);
        }
    }

    private void compareThings(World w, String of) {
        for (int t = 0; t < things.size(); t++) {
            boolean had = w.holder[t] >= 0;
            Due.due("thing(" + t + ", 2)" + of, x().thing(t, 2), had ? Due.NONE : w.lies[t]);
            Due.due("thing(" + t + ", 3)" + of, x().thing(t, 3), had ? w.holder[t] : Due.NONE);
            Due.due("thing(" + t + ", 4)" + of, x().thing(t, 4), had ? Due.NONE : 100000 + w.since[t]);
            Due.due("thing(" + t + ", 5)" + of, x().thing(t, 5), w.worn[t] / 144);
            for (int n = 0; n < 5; n++) {
                int at = n == 0 ? w.since[t] : w.since[t] - 20 + below(1000);
                if (at >= -9999 && at <= 9999) {
                    int due = had || at < w.since[t] ? Due.NO : w.worth(t, w.wornAt(t, at));
                    Due.due("worth(" + t + ", " + at + ")" + of, x().worth(t, at), due);
                }
            }
            int hours = 1 + below(below(2) == 0 ? 12 : 99);
            int best = 0;
            for (int r = 1; r < rooms.size(); r++) {
                best = w.worth(t, kept(w, t, r, hours)) > w.worth(t, kept(w, t, best, hours)) ? r : best;
            }
            Due.due("shelf(" + t + ", " + hours + ")" + of, x().shelf(t, hours), best);
        }
    }

    private static int kept(World w, int t, int r, int hours) {
        return w.worn[t] + exactly(144 * 12 * hours, w.hour[r]);
    }

    private void compareMeetings(World w, String of) {
        int lowest = FAR;
        int highest = -FAR;
        for (int[] visit : w.visits) {
            lowest = Math.min(lowest, visit[2]);
            highest = Math.max(highest, visit[3]);
        }
        for (int i = 0; i < persons.size(); i++) {
            for (int j = 0; j < persons.size(); j++) {
                int tick = Due.NONE;
                int room = Due.NONE;
                for (int at = lowest; at <= highest && room == Due.NONE; at++) {
                    for (int v = 0; v < w.visits.size(); v++) {
                        int[] one = w.visits.get(v);
                        boolean is = one[0] == i && one[2] <= at && at <= one[3];
                        if (is && w.in(j, one[1], at, v) && (room == Due.NONE || one[1] < room)) {
                            tick = 100000 + at;
                            room = one[1];
                        }
                    }
                }
                Due.due("meet(" + i + ", " + j + ", 0)" + of, x().meet(i, j, 0), tick);
                Due.due("meet(" + i + ", " + j + ", 1)" + of, x().meet(i, j, 1), room);
            }
        }
    }

    /** Lowest ticks by [doors][room], and the lowest first doors of those. */
    private void ways(World w, int r, int tick, int used, int first, int[][] lowest, int[][] firsts) {
        if (tick < lowest[used][r]) {
            lowest[used][r] = tick;
            firsts[used][r] = first;
        } else if (tick == lowest[used][r]) {
            firsts[used][r] = Math.min(firsts[used][r], first);
        }
        for (int d = 0; d < doors.size() && used + 1 < lowest.length; d++) {
            if (doors.get(d)[0] == r || doors.get(d)[1] == r) {
                ways(w, through(d, r), tick + ticks(w, d, r), used + 1, used == 0 ? d : first, lowest, firsts);
            }
        }
    }

    private int through(int d, int r) {
        return doors.get(d)[0] == r ? doors.get(d)[1] : doors.get(d)[0];
    }

    private int ticks(World w, int d, int r) {
        int[] door = doors.get(d);
        return crossing * w.hour[r] + ((door[0] == r) == (door[2] == 0) ? 12 : -12) * door[3];
    }

    private static int[][] table(int longest, int with) {
        int[][] table = new int[longest + 1][6];
        for (int[] row : table) {
            java.util.Arrays.fill(row, with);
        }
        return table;
    }

    private void compareWays(World w, String of) {
        for (int i = 0; i < persons.size(); i++) {
            int[][] lowest = table(8, FAR);
            int[][] firsts = table(8, FAR);
            ways(w, w.in[i], w.tick[i], 0, Due.NONE, lowest, firsts);
            for (int r = 0; r < rooms.size(); r++) {
                int best = -1;
                for (int n = 0; n <= 8; n++) {
                    if (lowest[n][r] != FAR && (best < 0 || lowest[n][r] < lowest[best][r])) {
                        best = n;
                    }
                    String call = "early(" + i + ", " + r + ", " + n + ", ";
                    Due.due(call + "0)" + of, x().early(i, r, n, 0), best < 0 ? Due.NONE : 100000 + lowest[best][r]);
                    Due.due(call + "1)" + of, x().early(i, r, n, 1), best < 0 ? Due.NONE : best);
                    Due.due(call + "2)" + of, x().early(i, r, n, 2), best < 0 ? Due.NONE : firsts[best][r]);
                }
            }
        }
        int fewest = Due.NONE;
        int room = Due.NONE;
        int lower = Due.NONE;
        boolean even = true;
        for (int r = 0; r < rooms.size(); r++) {
            int[][] lowest = table(8, FAR);
            ways(w, r, 0, 0, Due.NONE, lowest, table(8, FAR));
            for (int n = 8; n >= 2; n--) {
                if (lowest[n][r] < 0 && (fewest < 0 || n < fewest || room == r)) {
                    fewest = n;
                    room = r;
                    lower = -lowest[n][r];
                }
            }
            even &= evenFrom(r, r, 0, 6);
        }
        Due.due("ring(0)" + of, x().ring(0), fewest);
        Due.due("ring(1)" + of, x().ring(1), room);
        Due.due("ring(2)" + of, x().ring(2), lower);
        Due.due("even()" + of, x().even(), even ? 1 : 0);
    }

    /** Ways round that pass a room twice are put together from such as do not, of as many doors as rooms at most. */
    private boolean evenFrom(int start, int r, int hours, int left) {
        if (r == start && hours != 0) {
            return false;
        }
        for (int d = 0; d < doors.size() && left > 0; d++) {
            int[] door = doors.get(d);
            if (door[0] == r || door[1] == r) {
                int more = (door[0] == r) == (door[2] == 0) ? door[3] : -door[3];
                if (!evenFrom(start, through(d, r), hours + more, left - 1)) {
                    return false;
                }
            }
        }
        return true;
    }

    private void compareRounds(World w, String of) {
        int i = below(persons.size());
        int set = below(1 << rooms.size());
        int[] best = {FAR, FAR};
        rounds(w, w.in[i], 0, 0, 1 << w.in[i], set, best);
        int hours = 0;
        for (int r = 0; r < rooms.size(); r++) {
            hours += (set >> r & 1) * w.hour[r];
        }
        int tick = best[1] == FAR ? Due.NONE : 100000 + w.tick[i] + hours + best[0];
        Due.due("round(" + i + ", " + set + ", 0)" + of, x().round(i, set, 0), tick);
        Due.due("round(" + i + ", " + set + ", 1)" + of, x().round(i, set, 1), best[1] == FAR ? Due.NONE : best[1]);
    }

    private void rounds(World w, int r, int tick, int used, int been, int set, int[] best) {
        // The hours take the same ticks wherever on the way they are stayed; the last of them is where the way ends.
        boolean ends = set == 0 ? used == 0 : (set >> r & 1) == 1;
        if (ends && (set & ~been) == 0) {
            best[0] = Math.min(best[0], tick);
            best[1] = Math.min(best[1], used);
        }
        for (int d = 0; d < doors.size() && used < 10; d++) {
            if (doors.get(d)[0] == r || doors.get(d)[1] == r) {
                int next = through(d, r);
                rounds(w, next, tick + ticks(w, d, r), used + 1, been | 1 << next, set, best);
            }
        }
    }

    private void compareHours(World w, String of) {
        for (int i = 0; i < persons.size(); i++) {
            int h = below(24);
            int[] due = {FAR, FAR, FAR};
            int[] room = rooms.get(w.in[i]);
            for (int at = w.tick[i]; at <= w.tick[i] + 24 * 48; at++) {
                int own = 144 * w.age[i] + exactly(144 * (at - w.tick[i]), w.hour[w.in[i]]);
                due[0] = due[0] == FAR && Math.floorMod(at, 288) == 12 * h ? at : due[0];
                int shown = 12 * room[1] * room[2] + at * room[0];
                due[1] = due[1] == FAR && Math.floorMod(shown, 288 * room[1]) == 12 * room[1] * h ? at : due[1];
                due[2] = due[2] == FAR && own % (24 * 144) == 144 * h ? at : due[2];
            }
            for (int whose = 0; whose < 3; whose++) {
                Due.due("hour(" + i + ", " + h + ", " + whose + ")" + of, x().hour(i, h, whose), 100000 + due[whose]);
            }
            int j = below(persons.size());
            int agreed = i == j ? Due.BAD : Due.NONE;
            for (int at = Math.max(w.tick[i], w.tick[j]); at <= 9999 && agreed == Due.NONE; at++) {
                int one = 144 * w.age[i] + exactly(144 * (at - w.tick[i]), w.hour[w.in[i]]);
                int other = 144 * w.age[j] + exactly(144 * (at - w.tick[j]), w.hour[w.in[j]]);
                if (one % (24 * 144) == 144 * h && other % (24 * 144) == 144 * h) {
                    agreed = 100000 + at;
                }
            }
            Due.due("agreed(" + i + ", " + j + ", " + h + ")" + of, x().agreed(i, j, h), agreed);
        }
    }

    private void comparePaces(String of) {
        int r = below(rooms.size());
        if (below(4) == 0) {
            Due.due("forget()" + of, toChange().forget(), sights.size());
            sights.clear();
        } else {
            int t = 1 + below(12);
            int c = t * rooms.get(r)[0] / rooms.get(r)[1] + (below(9) == 0 ? 1 : 0);
            sights.add(new int[] {r, t, c});
            Due.due("seen(" + r + ", " + t + ", " + c + ")" + of, toChange().seen(r, t, c), sights.size());
        }
        List<int[]> still = new ArrayList<>();
        int bits = 0;
        for (int p = 1; p <= 4; p++) {
            for (int q = 1; q <= 4; q++) {
                boolean so = true;
                for (int[] sight : sights) {
                    so &= sight[0] != r || sight[1] * p / q == sight[2];
                }
                if (so) {
                    still.add(new int[] {p, q});
                    bits |= 1 << 4 * (p - 1) + q - 1;
                }
            }
        }
        Due.due("paces(" + r + ")" + of, x().paces(r), bits);
        int best = Due.NONE;
        int fewest = Due.NONE;
        for (int t = 1; t <= 24 && !still.isEmpty(); t++) {
            int[] shown = new int[100];
            int worst = 0;
            for (int[] pace : still) {
                worst = Math.max(worst, ++shown[t * pace[0] / pace[1]]);
            }
            if (best == Due.NONE || worst < fewest) {
                best = t;
                fewest = worst;
            }
        }
        Due.due("look(" + r + ", 0)" + of, x().look(r, 0), best);
        Due.due("look(" + r + ", 1)" + of, x().look(r, 1), fewest);
    }

    private void compareMended(World w, String of) {
        for (int r = 0; r < rooms.size(); r++) {
            World other = new World(r);
            int bits = 0;
            for (int i = 0; i < persons.size(); i++) {
                bits |= other.tick[i] != w.tick[i] ? 1 << i : 0;
            }
            Due.due("mended(" + r + ")" + of, x().mended(r), bits);
        }
        int z = below(10000);
        int i = below(persons.size());
        World then = new World(-1);
        for (int k = 0; k < 12; k++) {
            long n = 7919L * z + 6151L * k + 1;
            int draw = (int) (n % 65521 * (n % 65521) % 65521);
            if (draw % 3 == 0) {
                then.act(0, i, draw / 4 % 3 + 1);
            } else if (!doors.isEmpty()) {
                then.act(1, i, draw / 8 % doors.size());
            }
        }
        Due.due("day(" + z + ", " + i + ", 0)" + of, x().day(z, i, 0), 100000 + then.tick[i]);
        Due.due("day(" + z + ", " + i + ", 1)" + of, x().day(z, i, 1), then.in[i]);
    }
}
