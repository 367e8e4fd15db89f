import java.util.Arrays;

/** A house in which every room keeps its own time. */
public final class RoomsOfHours {
    public static final int BAD = -1, NO = -2, FULL = -3, NONE = -4;

    private static final String HOUSE_AT_FIRST =
            "r1,1,0;r2,1,6;r1,3,12;d0,1,0,1;d1,2,1,2;d2,0,0,0;p0,20;p1,30;t1,1,9;t0,2,4;";
    private static final int MOST_LETTERS = 200, MOST_ROOMS = 6, MOST_DOORS = 8, MOST_PERSONS = 4;
    private static final int MOST_THINGS = 5, MOST_ACTS = 40, MOST_SEEN = 8, MOST_KEPT = 2, MOST_PACE = 4;
    private static final int MOST_VISITS = MOST_PERSONS + MOST_ACTS;
    private static final int TICKS_OF_HOUR = 12, HOURS_OF_DAY = 24;
    private static final int LAST_TICK = 9999, TOLD_MORE = 100000;
    /** Ages of things are counted in such parts, so that the hours of every pace come out whole. */
    private static final int PARTS_OF_HOUR = 144;
    private static final int EARLY_DOORS = 8, ROUND_DOORS = 10, DAY_STEPS = 12;
    /** Above every tick that can be. */
    private static final int NEVER = 1 << 29;
    private static final int PLAIN = 0, TEA = 1, SOUP = 2;
    private static final int STAY = 0, GO = 1, TAKE = 2, PUT = 3;

    private final char[] text = new char[MOST_LETTERS];
    private int letters;
    private House house = new House();
    private House readHouse = new House();
    private final Course course = new Course(house);
    private final Course otherCourse = new Course(house);
    private final Acts acts = new Acts();
    private final Acts keptFirst = new Acts();
    private final Acts keptLast = new Acts();
    private int kept;
    private final Sights sights = new Sights();
    private final Walk walk = new Walk();
    private final Tour tour = new Tour();

    public RoomsOfHours() {
        int length = Math.min(HOUSE_AT_FIRST.length(), MOST_LETTERS);
        for (int n = 0; n < length; n++) {
            text[n] = HOUSE_AT_FIRST.charAt(n);
        }
        readHouse.readText(text, length);
        moveIn();
    }

    // ---- houses

    public int write(int letter) {
        if (letter < 32 || letter > 126) {
            return BAD;
        }
        if (letters >= MOST_LETTERS) {
            return FULL;
        }
        text[letters] = (char) letter;
        letters++;
        return letters;
    }

    public int wipe() {
        int before = letters;
        letters = 0;
        return before;
    }

    public int fault() {
        return readHouse.readText(text, letters);
    }

    public int lay() {
        if (readHouse.readText(text, letters) != NONE || readHouse.persons == 0) {
            return NO;
        }
        moveIn();
        return house.rooms;
    }

    public int room(int r, int what) {
        if (!isRoom(r)) {
            return BAD;
        }
        switch (what) {
            case 0: return house.pace[r];
            case 1: return house.paceBy[r];
            case 2: return house.shows[r];
            case 3: return house.hourTicks[r];
            default: return BAD;
        }
    }

    public int clock(int r, int t, int part) {
        if (!isRoom(r) || !isTickToTell(t) || !isOneOf(part, 2)) {
            return BAD;
        }
        int below = TICKS_OF_HOUR * house.paceBy[r];
        int above = Math.floorMod(house.shows[r] * below + t * house.pace[r], HOURS_OF_DAY * below);
        int common = commonDivisor(above, below);
        return (part == 0 ? above : below) / common;
    }

    public int door(int d, int what) {
        if (!isDoor(d)) {
            return BAD;
        }
        switch (what) {
            case 0: return house.from[d];
            case 1: return house.to[d];
            case 2: return house.leads[d] + 24;
            default: return BAD;
        }
    }

    public int person(int i, int what) {
        if (!isPerson(i)) {
            return BAD;
        }
        switch (what) {
            case 0: return course.in[i];
            case 1: return told(course.tick[i]);
            case 2: return course.age[i];
            case 3: return course.thingsOf(i);
            case 4: return course.visitsOf(i);
            default: return BAD;
        }
    }

    public int thing(int t, int what) {
        if (!isThing(t)) {
            return BAD;
        }
        switch (what) {
            case 0: return house.kind[t];
            case 1: return house.size[t];
            case 2: return course.lies[t];
            case 3: return course.holder[t];
            case 4: return course.lies[t] == NONE ? NONE : told(course.since[t]);
            case 5: return course.worn[t] / PARTS_OF_HOUR;
            default: return BAD;
        }
    }

    public int worth(int t, int tick) {
        if (!isThing(t) || !isTickToTell(tick)) {
            return BAD;
        }
        if (course.lies[t] == NONE || tick < course.since[t]) {
            return NO;
        }
        return house.worthOf(t, course.wornAt(t, tick));
    }

    // ---- acts

    public int stay(int i, int n) {
        if (!isPerson(i) || n < 1 || n > 24) {
            return BAD;
        }
        return act(STAY, i, n) ? told(course.tick[i]) : FULL;
    }

    public int go(int i, int d) {
        if (!isPerson(i) || !isDoor(d)) {
            return BAD;
        }
        if (!course.canGo(i, d)) {
            return NO;
        }
        return act(GO, i, d) ? told(course.tick[i]) : FULL;
    }

    public int take(int i, int t) {
        if (!isPerson(i) || !isThing(t)) {
            return BAD;
        }
        if (!course.canTake(i, t)) {
            return NO;
        }
        return act(TAKE, i, t) ? Integer.bitCount(course.thingsOf(i)) : FULL;
    }

    public int put(int i, int t) {
        if (!isPerson(i) || !isThing(t)) {
            return BAD;
        }
        if (!course.canPut(i, t)) {
            return NO;
        }
        return act(PUT, i, t) ? Integer.bitCount(course.thingsOf(i)) : FULL;
    }

    public int undo() {
        if (acts.count == 0) {
            return NO;
        }
        acts.count--;
        doAgain(course, NONE);
        return acts.count;
    }

    // ---- meetings

    public int meet(int i, int j, int what) {
        if (!isPerson(i) || !isPerson(j) || !isOneOf(what, 2)) {
            return BAD;
        }
        int soonest = NEVER;
        int where = NONE;
        for (int a = 0; a < course.visits; a++) {
            for (int b = 0; b < course.visits; b++) {
                if (a == b || course.visitor[a] != i || course.visitor[b] != j) {
                    continue;
                }
                int tick = course.firstShared(a, b);
                int in = course.visited[a];
                if (tick < soonest || (tick == soonest && tick != NEVER && in < where)) {
                    soonest = tick;
                    where = in;
                }
            }
        }
        if (soonest == NEVER) {
            return NONE;
        }
        return what == 0 ? told(soonest) : where;
    }

    // ---- ways

    public int early(int i, int r, int n, int what) {
        if (!isPerson(i) || !isRoom(r) || n < 0 || n > EARLY_DOORS || !isOneOf(what, 3)) {
            return BAD;
        }
        int soonest = NEVER;
        int fewest = NONE;
        int first = NONE;
        walk.begin(course.in[i], course.tick[i]);
        for (int k = 0; k <= n; k++) {
            if (walk.ticks[r] < soonest) {
                soonest = walk.ticks[r];
                fewest = k;
                first = walk.firsts[r];
            }
            walk.step(house);
        }
        if (soonest == NEVER) {
            return NONE;
        }
        return what == 0 ? told(soonest) : what == 1 ? fewest : first;
    }

    public int ring(int what) {
        if (!isOneOf(what, 3)) {
            return BAD;
        }
        int fewest = EARLY_DOORS + 1;
        int where = NONE;
        int lower = NONE;
        for (int r = 0; r < house.rooms; r++) {
            walk.begin(r, 0);
            // A room further on counts by fewer doors alone, so that of several the lowest is told.
            for (int k = 1; k < fewest; k++) {
                walk.step(house);
                if (walk.ticks[r] < 0) {
                    fewest = k;
                    where = r;
                    lower = -walk.ticks[r];
                }
            }
        }
        if (where == NONE) {
            return NONE;
        }
        return what == 0 ? fewest : what == 1 ? where : lower;
    }

    public int even() {
        return walk.isEven(house) ? 1 : 0;
    }

    public int round(int i, int set, int what) {
        if (!isPerson(i) || set < 0 || set >= 1 << house.rooms || !isOneOf(what, 2)) {
            return BAD;
        }
        tour.goAll(house, set, course.in[i], course.tick[i]);
        if (tour.fewest == NONE) {
            return NONE;
        }
        return what == 0 ? told(tour.soonest) : tour.fewest;
    }

    // ---- hours

    public int hour(int i, int h, int whose) {
        if (!isPerson(i) || !isOneOf(h, HOURS_OF_DAY)) {
            return BAD;
        }
        int in = course.in[i];
        int now = course.tick[i];
        switch (whose) {
            case 0: return told(nextTick(now, h * TICKS_OF_HOUR, TICKS_OF_HOUR));
            case 1: return told(nextTick(now, (h - house.shows[in]) * house.hourTicks[in], house.hourTicks[in]));
            case 2: return told(nextOwnHour(i, h));
            default: return BAD;
        }
    }

    public int agreed(int i, int j, int h) {
        if (!isPerson(i) || !isPerson(j) || i == j || !isOneOf(h, HOURS_OF_DAY)) {
            return BAD;
        }
        int ofOther = nextOwnHour(j, h);
        int day = HOURS_OF_DAY * house.hourTicks[course.in[i]];
        int otherDay = HOURS_OF_DAY * house.hourTicks[course.in[j]];
        if (day < 1 || otherDay < 1) {
            return NONE;
        }
        for (int tick = nextOwnHour(i, h); tick <= LAST_TICK; tick += day) {
            if (tick >= ofOther && (tick - ofOther) % otherDay == 0) {
                return told(tick);
            }
        }
        return NONE;
    }

    // ---- things, paces

    public int shelf(int t, int n) {
        if (!isThing(t) || n < 1 || n > 99) {
            return BAD;
        }
        int best = NONE;
        int most = -1;
        for (int r = 0; r < house.rooms; r++) {
            int worn = course.worn[t] + n * TICKS_OF_HOUR * house.partsOfTick[r];
            int worth = house.worthOf(t, worn);
            if (worth > most) {
                most = worth;
                best = r;
            }
        }
        return best;
    }

    public int seen(int r, int t, int c) {
        if (!isRoom(r) || t < 1 || t > 99 || c < 0 || c > 400) {
            return BAD;
        }
        return sights.add(r, t, c) ? sights.count : FULL;
    }

    public int forget() {
        int before = sights.count;
        sights.count = 0;
        return before;
    }

    public int paces(int r) {
        return isRoom(r) ? sights.pacesOf(r) : BAD;
    }

    public int look(int r, int what) {
        if (!isRoom(r) || !isOneOf(what, 2)) {
            return BAD;
        }
        int still = sights.pacesOf(r);
        if (still == 0) {
            return NONE;
        }
        int best = NONE;
        int fewest = NEVER;
        for (int t = 1; t <= 24; t++) {
            int alike = sights.mostAlike(still, t);
            if (alike < fewest) {
                fewest = alike;
                best = t;
            }
        }
        return what == 0 ? best : fewest;
    }

    public int mended(int r) {
        if (!isRoom(r)) {
            return BAD;
        }
        doAgain(otherCourse, r);
        int others = 0;
        for (int i = 0; i < house.persons; i++) {
            if (otherCourse.tick[i] != course.tick[i]) {
                others |= 1 << i;
            }
        }
        return others;
    }

    public int day(int z, int i, int what) {
        if (!isOneOf(z, 10000) || !isPerson(i) || !isOneOf(what, 2)) {
            return BAD;
        }
        int in = course.in[i];
        int tick = course.tick[i];
        for (int k = 0; k < DAY_STEPS; k++) {
            int draw = drawOf(z, k);
            if (draw % 3 == 0) {
                tick += (draw / 4 % 3 + 1) * house.hourTicks[in];
            } else if (house.doors > 0) {
                int d = draw / 8 % house.doors;
                if (house.isDoorOf(d, in)) {
                    tick += house.ticksThrough(d, in);
                    in = house.behind(d, in);
                }
            }
        }
        return what == 0 ? told(tick) : in;
    }

    // ---- kept

    public int keep() {
        if (kept >= MOST_KEPT) {
            return FULL;
        }
        (kept == 0 ? keptFirst : keptLast).copy(acts);
        kept++;
        return kept;
    }

    public int back() {
        if (kept == 0) {
            return NO;
        }
        kept--;
        acts.copy(kept == 0 ? keptFirst : keptLast);
        doAgain(course, NONE);
        return kept;
    }

    public int count(int what) {
        switch (what) {
            case 0: return house.rooms;
            case 1: return house.doors;
            case 2: return house.persons;
            case 3: return house.things;
            case 4: return acts.count;
            case 5: return sights.count;
            case 6: return kept;
            case 7: return letters;
            case 8: return house.crossing;
            default: return BAD;
        }
    }

    // ---- what the calls share

    /** The house that was read is lived in from now on; the one left is read into next. */
    private void moveIn() {
        House left = house;
        house = readHouse;
        readHouse = left;
        acts.count = 0;
        sights.count = 0;
        kept = 0;
        course.begin(house, NONE);
    }

    private void doAgain(Course again, int mendedRoom) {
        again.begin(house, mendedRoom);
        for (int n = 0; n < acts.count; n++) {
            again.perform(acts.kind[n], acts.who[n], acts.with[n]);
        }
    }

    /** Does an act that can be done, if there is room for one more. */
    private boolean act(int kind, int who, int with) {
        if (!acts.add(kind, who, with)) {
            return false;
        }
        course.perform(kind, who, with);
        return true;
    }

    private int nextOwnHour(int i, int h) {
        int hourTicks = house.hourTicks[course.in[i]];
        return nextTick(course.tick[i], course.tick[i] + (h - course.age[i]) * hourTicks, hourTicks);
    }

    /** The lowest tick from now on that is whole days, of such hours, away from one at which it is so. */
    private static int nextTick(int now, int once, int hourTicks) {
        int day = HOURS_OF_DAY * hourTicks;
        return day < 1 ? now : now + Math.floorMod(once - now, day);
    }

    private static int drawOf(int z, int k) {
        long x = 7919L * z + 6151L * k + 1L;
        return (int) (x * x % 65521L);
    }

    private static int commonDivisor(int above, int below) {
        int a = above;
        int b = below;
        for (int n = 0; n < 64 && b != 0; n++) {
            int rest = a % b;
            a = b;
            b = rest;
        }
        return Math.max(a, 1);
    }

    private static int told(int tick) {
        return tick + TOLD_MORE;
    }

    private static boolean isOneOf(int number, int howMany) {
        return number >= 0 && number < howMany;
    }

    private static boolean isTickToTell(int t) {
        return t >= -LAST_TICK && t <= LAST_TICK;
    }

    private boolean isRoom(int r) {
        return isOneOf(r, house.rooms);
    }

    private boolean isDoor(int d) {
        return isOneOf(d, house.doors);
    }

    private boolean isPerson(int i) {
        return isOneOf(i, house.persons);
    }

    private boolean isThing(int t) {
        return isOneOf(t, house.things);
    }

    /** A house as its text tells it. */
    private static final class House {
        final int[] pace = new int[MOST_ROOMS];
        final int[] paceBy = new int[MOST_ROOMS];
        final int[] shows = new int[MOST_ROOMS];
        final int[] hourTicks = new int[MOST_ROOMS];
        final int[] partsOfTick = new int[MOST_ROOMS];
        final int[] from = new int[MOST_DOORS];
        final int[] to = new int[MOST_DOORS];
        final int[] leads = new int[MOST_DOORS];
        final int[] personIn = new int[MOST_PERSONS];
        final int[] personAge = new int[MOST_PERSONS];
        final int[] thingIn = new int[MOST_THINGS];
        final int[] kind = new int[MOST_THINGS];
        final int[] size = new int[MOST_THINGS];
        final int[] numbers = new int[4];
        int rooms;
        int doors;
        int persons;
        int things;
        int crossing;

        /** Where the first item stands that is not so, or NONE. */
        int readText(char[] text, int length) {
            rooms = 0;
            doors = 0;
            persons = 0;
            things = 0;
            crossing = 1;
            int place = 0;
            for (int n = 0; n < length && place < length; n++) {
                int next = readItem(text, length, place);
                if (next == NONE) {
                    return place;
                }
                place = next;
            }
            return NONE;
        }

        /** The place behind the item, or NONE if it is not so. */
        private int readItem(char[] text, int length, int place) {
            int letter = text[place];
            int wanted = numbersOf(letter);
            int next = place + 1;
            for (int n = 0; n < wanted; n++) {
                int figures = figuresAt(text, length, next);
                if (figures == 0) {
                    return NONE;
                }
                numbers[n] = numberAt(text, next, figures);
                next += figures;
                if (next >= length || text[next] != (n + 1 < wanted ? ',' : ';')) {
                    return NONE;
                }
                next++;
            }
            return addItem(letter) ? next : NONE;
        }

        private static int numbersOf(int letter) {
            switch (letter) {
                case 'r': return 3;
                case 'd': return 4;
                case 'p': return 2;
                case 't': return 3;
                case 'w': return 1;
                default: return 0;
            }
        }

        private static int figuresAt(char[] text, int length, int place) {
            int figures = 0;
            for (int n = place; n < length && figures < 2 && text[n] >= '0' && text[n] <= '9'; n++) {
                figures++;
            }
            return figures;
        }

        private static int numberAt(char[] text, int place, int figures) {
            int number = 0;
            for (int n = 0; n < figures; n++) {
                number = 10 * number + (text[place + n] - '0');
            }
            return number;
        }

        private boolean addItem(int letter) {
            switch (letter) {
                case 'r': return addRoom(numbers[0], numbers[1], numbers[2]);
                case 'd': return addDoor(numbers[0], numbers[1], numbers[2], numbers[3]);
                case 'p': return addPerson(numbers[0], numbers[1]);
                case 't': return addThing(numbers[0], numbers[1], numbers[2]);
                case 'w': return setCrossing(numbers[0]);
                default: return false;
            }
        }

        private boolean addRoom(int p, int q, int o) {
            if (rooms >= MOST_ROOMS || p < 1 || p > MOST_PACE || q < 1 || q > MOST_PACE || o >= HOURS_OF_DAY) {
                return false;
            }
            pace[rooms] = p;
            paceBy[rooms] = q;
            shows[rooms] = o;
            hourTicks[rooms] = TICKS_OF_HOUR * q / p;
            partsOfTick[rooms] = PARTS_OF_HOUR / TICKS_OF_HOUR * p / q;
            rooms++;
            return true;
        }

        private boolean addDoor(int a, int b, int f, int s) {
            if (doors >= MOST_DOORS || a >= rooms || b >= rooms || a == b || f > 1 || s > 24) {
                return false;
            }
            from[doors] = a;
            to[doors] = b;
            leads[doors] = f == 0 ? s : -s;
            doors++;
            return true;
        }

        private boolean addPerson(int r, int a) {
            if (persons >= MOST_PERSONS || r >= rooms) {
                return false;
            }
            personIn[persons] = r;
            personAge[persons] = a;
            persons++;
            return true;
        }

        private boolean addThing(int r, int k, int n) {
            if (things >= MOST_THINGS || r >= rooms || k > 3 || n < 1) {
                return false;
            }
            thingIn[things] = r;
            kind[things] = k;
            size[things] = n;
            things++;
            return true;
        }

        private boolean setCrossing(int w) {
            if (w > 3) {
                return false;
            }
            crossing = w;
            return true;
        }

        boolean isDoorOf(int d, int r) {
            return from[d] == r || to[d] == r;
        }

        int behind(int d, int r) {
            return from[d] == r ? to[d] : from[d];
        }

        int leadTicks(int d, int r) {
            return (from[d] == r ? leads[d] : -leads[d]) * TICKS_OF_HOUR;
        }

        int ticksThrough(int d, int r) {
            return crossing * hourTicks[r] + leadTicks(d, r);
        }

        int worthOf(int t, int worn) {
            int hours = worn / PARTS_OF_HOUR;
            switch (kind[t]) {
                case PLAIN: return size[t];
                case TEA: return Math.max(size[t] - hours, 0);
                case SOUP: return hours >= size[t] ? 1 : 0;
                default: return hours < size[t] ? 1 : 0;
            }
        }
    }

    /** What was done, in the order in which it was told. */
    private static final class Acts {
        final int[] kind = new int[MOST_ACTS];
        final int[] who = new int[MOST_ACTS];
        final int[] with = new int[MOST_ACTS];
        int count;

        boolean add(int newKind, int newWho, int newWith) {
            if (count >= MOST_ACTS) {
                return false;
            }
            kind[count] = newKind;
            who[count] = newWho;
            with[count] = newWith;
            count++;
            return true;
        }

        void copy(Acts other) {
            count = other.count;
            System.arraycopy(other.kind, 0, kind, 0, count);
            System.arraycopy(other.who, 0, who, 0, count);
            System.arraycopy(other.with, 0, with, 0, count);
        }
    }

    /** What has become of persons and things by the acts. */
    private static final class Course {
        House house;
        int mendedRoom;
        final int[] in = new int[MOST_PERSONS];
        final int[] tick = new int[MOST_PERSONS];
        final int[] age = new int[MOST_PERSONS];
        final int[] latest = new int[MOST_PERSONS];
        /** The room of a thing, or NONE while it has a holder. */
        final int[] lies = new int[MOST_THINGS];
        final int[] holder = new int[MOST_THINGS];
        final int[] since = new int[MOST_THINGS];
        /** How old a thing was when it was put, or is with its holder, in parts of hours. */
        final int[] worn = new int[MOST_THINGS];
        final int[] visitor = new int[MOST_VISITS];
        final int[] visited = new int[MOST_VISITS];
        final int[] came = new int[MOST_VISITS];
        final int[] left = new int[MOST_VISITS];
        int visits;

        Course(House firstHouse) {
            house = firstHouse;
        }

        void begin(House newHouse, int newMendedRoom) {
            house = newHouse;
            mendedRoom = newMendedRoom;
            visits = 0;
            for (int i = 0; i < house.persons; i++) {
                tick[i] = 0;
                age[i] = house.personAge[i];
                enter(i, house.personIn[i]);
            }
            for (int t = 0; t < house.things; t++) {
                lies[t] = house.thingIn[t];
                holder[t] = NONE;
                since[t] = 0;
                worn[t] = 0;
            }
        }

        /** Does an act, or leaves it out if it cannot be done. */
        void perform(int kind, int who, int with) {
            if (kind == STAY) {
                pass(who, with);
            } else if (kind == GO && canGo(who, with)) {
                cross(who, with);
            } else if (kind == TAKE && canTake(who, with)) {
                pick(who, with);
            } else if (kind == PUT && canPut(who, with)) {
                drop(who, with);
            }
        }

        boolean canGo(int i, int d) {
            return house.isDoorOf(d, in[i]);
        }

        boolean canTake(int i, int t) {
            return lies[t] == in[i] && since[t] <= tick[i];
        }

        boolean canPut(int i, int t) {
            return holder[t] == i;
        }

        private void pass(int i, int hours) {
            tick[i] += hours * hourTicksOf(in[i]);
            age[i] += hours;
            left[latest[i]] = tick[i];
            for (int t = 0; t < house.things; t++) {
                if (holder[t] == i) {
                    worn[t] += hours * PARTS_OF_HOUR;
                }
            }
        }

        private void cross(int i, int d) {
            pass(i, house.crossing);
            tick[i] += house.leadTicks(d, in[i]);
            enter(i, house.behind(d, in[i]));
        }

        private void enter(int i, int r) {
            in[i] = r;
            if (visits >= MOST_VISITS) {
                return;
            }
            visitor[visits] = i;
            visited[visits] = r;
            came[visits] = tick[i];
            left[visits] = tick[i];
            latest[i] = visits;
            visits++;
        }

        private void pick(int i, int t) {
            worn[t] = wornAt(t, tick[i]);
            lies[t] = NONE;
            holder[t] = i;
        }

        private void drop(int i, int t) {
            lies[t] = in[i];
            holder[t] = NONE;
            since[t] = tick[i];
        }

        private int hourTicksOf(int r) {
            return r == mendedRoom ? TICKS_OF_HOUR : house.hourTicks[r];
        }

        private int partsOfTickIn(int r) {
            return r == mendedRoom ? PARTS_OF_HOUR / TICKS_OF_HOUR : house.partsOfTick[r];
        }

        /** How old a thing is at a tick, in parts of hours; its holder's hours are counted as they go by. */
        int wornAt(int t, int atTick) {
            return lies[t] == NONE ? worn[t] : worn[t] + (atTick - since[t]) * partsOfTickIn(lies[t]);
        }

        int thingsOf(int i) {
            int had = 0;
            for (int t = 0; t < house.things; t++) {
                if (holder[t] == i) {
                    had |= 1 << t;
                }
            }
            return had;
        }

        int visitsOf(int i) {
            int his = 0;
            for (int v = 0; v < visits; v++) {
                if (visitor[v] == i) {
                    his++;
                }
            }
            return his;
        }

        /** The first tick that is in both visits, or NEVER. */
        int firstShared(int a, int b) {
            int first = Math.max(came[a], came[b]);
            return visited[a] == visited[b] && first <= Math.min(left[a], left[b]) ? first : NEVER;
        }
    }

    /** What was seen of the clocks. */
    private static final class Sights {
        final int[] room = new int[MOST_SEEN];
        final int[] hours = new int[MOST_SEEN];
        final int[] shown = new int[MOST_SEEN];
        int count;

        boolean add(int r, int t, int c) {
            if (count >= MOST_SEEN) {
                return false;
            }
            room[count] = r;
            hours[count] = t;
            shown[count] = c;
            count++;
            return true;
        }

        int pacesOf(int r) {
            int still = 0;
            for (int pace = 0; pace < MOST_PACE * MOST_PACE; pace++) {
                if (isStillSo(r, pace)) {
                    still |= 1 << pace;
                }
            }
            return still;
        }

        private boolean isStillSo(int r, int pace) {
            for (int n = 0; n < count; n++) {
                if (room[n] == r && shownBy(pace, hours[n]) != shown[n]) {
                    return false;
                }
            }
            return true;
        }

        /** Of the paces in the set, how many at the most would show the same after so many hours. */
        int mostAlike(int set, int t) {
            int most = 0;
            for (int pace = 0; pace < MOST_PACE * MOST_PACE; pace++) {
                int alike = 0;
                for (int other = 0; other < MOST_PACE * MOST_PACE; other++) {
                    boolean both = (set >> pace & set >> other & 1) == 1;
                    if (both && shownBy(pace, t) == shownBy(other, t)) {
                        alike++;
                    }
                }
                most = Math.max(most, alike);
            }
            return most;
        }

        private static int shownBy(int pace, int t) {
            int p = pace / MOST_PACE + 1;
            int q = pace % MOST_PACE + 1;
            return t * p / Math.max(q, 1);
        }
    }

    /** The lowest ticks at which one can be in the rooms by just so many doors. */
    private static final class Walk {
        final int[] ticks = new int[MOST_ROOMS];
        final int[] nextTicks = new int[MOST_ROOMS];
        /** The lowest door by which a way to such a tick can begin. */
        final int[] firsts = new int[MOST_ROOMS];
        final int[] nextFirsts = new int[MOST_ROOMS];

        void begin(int r, int tick) {
            Arrays.fill(ticks, NEVER);
            Arrays.fill(firsts, NONE);
            ticks[r] = tick;
        }

        void step(House house) {
            Arrays.fill(nextTicks, NEVER);
            Arrays.fill(nextFirsts, NONE);
            for (int d = 0; d < house.doors; d++) {
                offer(house, d, house.from[d]);
                offer(house, d, house.to[d]);
            }
            System.arraycopy(nextTicks, 0, ticks, 0, MOST_ROOMS);
            System.arraycopy(nextFirsts, 0, firsts, 0, MOST_ROOMS);
        }

        private void offer(House house, int d, int r) {
            if (ticks[r] == NEVER) {
                return;
            }
            int other = house.behind(d, r);
            int tick = ticks[r] + house.ticksThrough(d, r);
            int first = firsts[r] == NONE ? d : firsts[r];
            if (tick < nextTicks[other] || (tick == nextTicks[other] && first < nextFirsts[other])) {
                nextTicks[other] = tick;
                nextFirsts[other] = first;
            }
        }

        /** All ways back come to 0 just if every room has one distance, whichever way is gone to it. */
        boolean isEven(House house) {
            Arrays.fill(ticks, NEVER);
            for (int r = 0; r < house.rooms; r++) {
                if (ticks[r] == NEVER) {
                    ticks[r] = 0;
                    spread(house);
                }
            }
            for (int d = 0; d < house.doors; d++) {
                if (ticks[house.to[d]] - ticks[house.from[d]] != house.leads[d]) {
                    return false;
                }
            }
            return true;
        }

        private void spread(House house) {
            for (int n = 1; n < house.rooms; n++) {
                for (int d = 0; d < house.doors; d++) {
                    int a = house.from[d];
                    int b = house.to[d];
                    if (ticks[a] != NEVER && ticks[b] == NEVER) {
                        ticks[b] = ticks[a] + house.leads[d];
                    } else if (ticks[b] != NEVER && ticks[a] == NEVER) {
                        ticks[a] = ticks[b] - house.leads[d];
                    }
                }
            }
        }
    }

    /** Rounds through a set of rooms, an hour in each; a round is done when the last of these hours is over. */
    private static final class Tour {
        /** The lowest tick by the rooms stayed in (as bits) and the room where one is. */
        int[] ticks = new int[MOST_ROOMS << MOST_ROOMS];
        int[] nextTicks = new int[MOST_ROOMS << MOST_ROOMS];
        int soonest;
        int fewest;

        void goAll(House house, int set, int in, int tick) {
            soonest = NEVER;
            fewest = NONE;
            Arrays.fill(ticks, NEVER);
            ticks[in] = tick;
            stayOrNot(house, set);
            noteDone(house, set, 0);
            for (int k = 1; k <= ROUND_DOORS; k++) {
                step(house, set);
                stayOrNot(house, set);
                noteDone(house, set, k);
            }
        }

        /** Whoever has stayed in all of the set goes no further: he is done, though doors may lead him back. */
        private void step(House house, int set) {
            Arrays.fill(nextTicks, NEVER);
            for (int stayed = 0; stayed < set; stayed++) {
                for (int r = 0; r < house.rooms; r++) {
                    if (ticks[stayed * MOST_ROOMS + r] != NEVER) {
                        leave(house, stayed, r);
                    }
                }
            }
            int[] before = ticks;
            ticks = nextTicks;
            nextTicks = before;
        }

        private void leave(House house, int stayed, int r) {
            int tick = ticks[stayed * MOST_ROOMS + r];
            for (int d = 0; d < house.doors; d++) {
                if (house.isDoorOf(d, r)) {
                    int at = stayed * MOST_ROOMS + house.behind(d, r);
                    nextTicks[at] = Math.min(nextTicks[at], tick + house.ticksThrough(d, r));
                }
            }
        }

        /** One may leave a room without the hour, as to come there again for it can be done sooner. */
        private void stayOrNot(House house, int set) {
            for (int stayed = 0; stayed < set; stayed++) {
                for (int r = 0; r < house.rooms; r++) {
                    int tick = ticks[stayed * MOST_ROOMS + r];
                    if (tick != NEVER && ((set & ~stayed) >> r & 1) == 1) {
                        int at = (stayed | 1 << r) * MOST_ROOMS + r;
                        ticks[at] = Math.min(ticks[at], tick + house.hourTicks[r]);
                    }
                }
            }
        }

        private void noteDone(House house, int set, int doors) {
            for (int r = 0; r < house.rooms; r++) {
                int tick = ticks[set * MOST_ROOMS + r];
                if (tick != NEVER && fewest == NONE) {
                    fewest = doors;
                }
                soonest = Math.min(soonest, tick);
            }
        }
    }
}
