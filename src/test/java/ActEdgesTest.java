/** Promises 12 to 17 and 31 to 33: a test of its own for each boundary of acts, meetings and what is kept. */
public final class ActEdgesTest {
    /** An hour of room 0 is 4 ticks, one of room 1 is 3, one of room 2 is 12: persons can be a tick apart. */
    private static final String TICK_APART = "r3,1,0;r4,1,0;r1,1,0;d0,1,0,0;d0,2,1,1;p0,0;p1,0;p0,0;p2,0;t0,1,9;w0;";
    private static final String PLAIN_HOUSE = "r1,1,0;r1,1,0;r1,1,0;d0,1,0,0;d1,2,0,0;p0,0;p1,0;t0,0,1;t0,0,1;";

    public static void main(String[] args) {
        ticksAtFirst();
        stayEdges();
        stayGoesBy();
        goEdges();
        goHours();
        goEitherWay();
        goNotOfHisRoom();
        takeEdges();
        takeSinceHisTick();
        takeNotThere();
        takeHowMany();
        putEdges();
        putFromHisTick();
        putHeHasItNot();
        putHowMany();
        actsAtMost();
        ofSeveralTheFirst();
        undoEach();
        undoAsOften();
        undoLeavesTheRest();
        visitEnds();
        visitsOfBoth();
        meetFirstOfAll();
        meetLowestRoom();
        meetHimself();
        meetEdges();
        keepAtMost();
        backAsKeptLast();
        keptActsAlone();
        keptFull();
        countEdges();
        Due.end();
    }

    private static void ticksAtFirst() {
        Due.sentence("Each PERSON has his own TICK, at first 0");
        RoomsOfHours x = Due.laid(TICK_APART);
        for (int i = 0; i < 4; i++) {
            Due.due("person(" + i + ", 1)", x.person(i, 1), 100000);
        }
        x.stay(1, 1);
        int[] due = {100000, 100003, 100000, 100000};
        for (int i = 0; i < 4; i++) {
            Due.due("person(" + i + ", 1)", x.person(i, 1), due[i]);
        }
    }

    // ---- stay

    private static void stayEdges() {
        Due.sentence("STAY n (1 to 24); such PERSONS as there are");
        Due.range("stay(i, 1)", 0, 1, i -> new RoomsOfHours().stay(i, 1));
        Due.range("stay(0, n)", 1, 24, n -> new RoomsOfHours().stay(0, n));
        Due.range("stay(1, n)", 1, 24, n -> new RoomsOfHours().stay(1, n));
        Due.range("stay(i, 1) of four", 0, 3, i -> Due.laid(TICK_APART).stay(i, 1));
    }

    private static void stayGoesBy() {
        Due.sentence("STAY n: n of the ROOM's hours go by for him, he is n older");
        RoomsOfHours x = Due.laid("r1,4,0;r4,1,0;p0,99;p1,0;");
        Due.due("stay(0, 1)", x.stay(0, 1), 100048);
        Due.due("person(0, 2)", x.person(0, 2), 100);
        Due.due("stay(0, 24)", x.stay(0, 24), 100048 + 24 * 48);
        Due.due("person(0, 2)", x.person(0, 2), 124);
        Due.due("stay(1, 1)", x.stay(1, 1), 100003);
        Due.due("stay(1, 24)", x.stay(1, 24), 100075);
        Due.due("person(1, 2)", x.person(1, 2), 25);
        Due.due("person(0, 0): he is where he was", x.person(0, 0), 0);
    }

    // ---- go

    private static void goEdges() {
        Due.sentence("go: such PERSONS and DOORS as there are");
        Due.range("go(i, 0)", 0, 1, i -> new RoomsOfHours().go(i, 0));
        Due.range("go(0, d)", 0, 2, d -> new RoomsOfHours().go(0, d));
        Due.due("go(0, 0) without doors", Due.laid("r1,1,0;p0,0;").go(0, 0), Due.BAD);
        String eight = "r1,1,0;r1,1,0;" + "d0,1,0,24;".repeat(8) + "p0,0;";
        Due.range("go(0, d) of eight", 0, 7, d -> Due.laid(eight).go(0, d));
    }

    private static void goHours() {
        Due.sentence("GO: W hours of the ROOM go by for him likewise, then S hours of the HALL (12 TICKS each) on or back");
        for (int w = 0; w <= 3; w++) {
            for (int s : new int[] {0, 1, 24}) {
                for (int f = 0; f < 2; f++) {
                    String text = "r1,4,0;r4,1,0;d0,1," + f + "," + s + ";p0,7;t0,1,9;w" + w + ";";
                    RoomsOfHours x = Due.laid(text);
                    x.take(0, 0);
                    int there = 100000 + 48 * w + (f == 0 ? 12 : -12) * s;
                    Due.due("go(0, 0) of " + text, x.go(0, 0), there);
                    Due.due("person(0, 2) of " + text, x.person(0, 2), 7 + w);
                    Due.due("thing(0, 5) of " + text, x.thing(0, 5), w);
                    Due.due("go(0, 0) back, of " + text, x.go(0, 0), there + 3 * w - (f == 0 ? 12 : -12) * s);
                    Due.due("person(0, 2) of " + text, x.person(0, 2), 7 + 2 * w);
                }
            }
        }
    }

    private static void goEitherWay() {
        Due.sentence("from B to A by as many the other way");
        RoomsOfHours x = Due.laid("r1,1,0;r1,1,0;d0,1,0,24;d0,1,1,24;p0,0;p1,0;w0;");
        Due.due("go(0, 0) from A", x.go(0, 0), 100288);
        Due.due("person(0, 0)", x.person(0, 0), 1);
        Due.due("go(0, 0) from B", x.go(0, 0), 100000);
        Due.due("person(0, 0)", x.person(0, 0), 0);
        Due.due("go(1, 0) from B", x.go(1, 0), 100000 - 288);
        Due.due("go(1, 1) from A", x.go(1, 1), 100000 - 576);
        Due.due("go(1, 1) from B", x.go(1, 1), 100000 - 288);
    }

    private static void goNotOfHisRoom() {
        Due.sentence("go, NO: it is none of his ROOM");
        RoomsOfHours x = Due.laid(PLAIN_HOUSE);
        Due.due("go(0, 1) from room 0", x.go(0, 1), Due.NO);
        Due.due("count(4)", x.count(4), 0);
        Due.due("person(0, 0)", x.person(0, 0), 0);
        Due.due("person(0, 1)", x.person(0, 1), 100000);
        Due.due("go(0, 0) from room 0", x.go(0, 0), 100012);
        Due.due("go(0, 1) from room 1", x.go(0, 1), 100024);
        Due.due("go(0, 0) from room 2", x.go(0, 0), Due.NO);
        Due.due("go(0, 1) from room 2", x.go(0, 1), 100036);
    }

    // ---- take

    private static void takeEdges() {
        Due.sentence("take: such PERSONS and THINGS as there are");
        Due.range("take(i, 1)", 0, 1, i -> new RoomsOfHours().take(i, 1));
        Due.range("take(0, t)", 0, 1, t -> new RoomsOfHours().take(0, t));
        Due.due("take(0, 0) without things", Due.laid("r1,1,0;p0,0;").take(0, 0), Due.BAD);
        String five = "r1,1,0;p0,0;" + "t0,0,1;".repeat(5);
        Due.range("take(0, t) of five", 0, 4, t -> Due.laid(five).take(0, t));
    }

    private static void takeSinceHisTick() {
        Due.sentence("TAKE: a THING that lies in his ROOM, since his TICK or an earlier one");
        RoomsOfHours x = Due.laid(TICK_APART);
        x.take(0, 0);
        x.stay(0, 1);
        x.put(0, 0);
        x.stay(1, 1);
        x.go(1, 0);
        Due.due("take(1, 0) at 3, put at 4", x.take(1, 0), Due.NO);
        Due.due("thing(0, 2): it lies where it lay", x.thing(0, 2), 0);
        x.stay(2, 1);
        Due.due("take(2, 0) at 4, put at 4", x.take(2, 0), 1);
        x.undo();
        x.stay(1, 1);
        Due.due("take(1, 0) at 7, put at 4", x.take(1, 0), 1);
        Due.sentence("TAKE below 0");
        RoomsOfHours low = Due.laid(TICK_APART);
        low.go(0, 1);
        low.go(1, 0);
        low.go(1, 1);
        low.stay(1, 1);
        Due.due("person(0, 1)", low.person(0, 1), 100000 - 12);
        Due.due("person(1, 1)", low.person(1, 1), 100000);
        low.take(2, 0);
        low.go(2, 1);
        Due.due("put(2, 0) at -12", low.put(2, 0), 0);
        Due.due("take(0, 0) at -12", low.take(0, 0), 1);
        low.undo();
        low.undo();
        low.stay(2, 1);
        Due.due("put(2, 0) at 0", low.put(2, 0), 0);
        Due.due("take(0, 0) at -12: not yet", low.take(0, 0), Due.NO);
        Due.due("take(1, 0) at 0", low.take(1, 0), 1);
        Due.sentence("what lies there at first lies there since TICK 0");
        RoomsOfHours early = Due.laid("r1,1,0;r1,1,0;d0,1,1,1;p0,0;t1,0,9;w0;");
        early.go(0, 0);
        Due.due("take(0, 0) at -12", early.take(0, 0), Due.NO);
        early.stay(0, 1);
        Due.due("take(0, 0) at 0", early.take(0, 0), 1);
    }

    private static void takeNotThere() {
        Due.sentence("take, NO: it is not there, not yet");
        RoomsOfHours x = Due.laid(PLAIN_HOUSE);
        Due.due("take(1, 0) from another room", x.take(1, 0), Due.NO);
        Due.due("take(0, 0)", x.take(0, 0), 1);
        Due.due("take(0, 0) that he has", x.take(0, 0), Due.NO);
        x.go(1, 0);
        Due.due("take(1, 0) that another has, in one room", x.take(1, 0), Due.NO);
        Due.due("take(1, 1)", x.take(1, 1), 1);
        Due.due("count(4): what was refused is none", x.count(4), 3);
    }

    private static void takeHowMany() {
        Due.sentence("TAKE: how many he has");
        RoomsOfHours x = Due.laid("r1,1,0;p0,0;p0,0;" + "t0,0,1;".repeat(5));
        int[] order = {4, 0, 2, 1};
        for (int n = 0; n < order.length; n++) {
            Due.due("take(0, " + order[n] + ")", x.take(0, order[n]), n + 1);
        }
        Due.due("take(1, 3): his own", x.take(1, 3), 1);
        x.put(1, 3);
        Due.due("take(0, 3): all five", x.take(0, 3), 5);
    }

    // ---- put

    private static void putEdges() {
        Due.sentence("put: such PERSONS and THINGS as there are");
        Due.range("put(i, 1)", 0, 1, i -> new RoomsOfHours().put(i, 1));
        Due.range("put(0, t)", 0, 1, t -> new RoomsOfHours().put(0, t));
        Due.due("put(0, 0) without things", Due.laid("r1,1,0;p0,0;").put(0, 0), Due.BAD);
    }

    private static void putFromHisTick() {
        Due.sentence("PUT: a THING that he has lies in his ROOM from his TICK on");
        RoomsOfHours x = Due.laid(TICK_APART);
        x.take(0, 0);
        x.go(0, 1);
        Due.due("put(0, 0)", x.put(0, 0), 0);
        Due.due("thing(0, 2)", x.thing(0, 2), 2);
        Due.due("thing(0, 3)", x.thing(0, 3), Due.NONE);
        Due.due("thing(0, 4)", x.thing(0, 4), 100000 - 12);
        Due.due("worth(0, -13)", x.worth(0, -13), Due.NO);
        Due.due("worth(0, -12)", x.worth(0, -12), 9);
    }

    private static void putHeHasItNot() {
        Due.sentence("put, NO: he has it not");
        RoomsOfHours x = Due.laid(PLAIN_HOUSE);
        Due.due("put(0, 0) that lies there", x.put(0, 0), Due.NO);
        x.take(0, 0);
        x.go(1, 0);
        Due.due("put(1, 0) that another has", x.put(1, 0), Due.NO);
        Due.due("thing(0, 3)", x.thing(0, 3), 0);
        Due.due("put(0, 0)", x.put(0, 0), 0);
        Due.due("put(0, 0) twice", x.put(0, 0), Due.NO);
    }

    private static void putHowMany() {
        Due.sentence("PUT: how many he has left");
        RoomsOfHours x = Due.laid("r1,1,0;p0,0;p0,0;" + "t0,0,1;".repeat(5));
        x.take(1, 4);
        for (int t = 0; t < 4; t++) {
            x.take(0, t);
        }
        for (int t = 0; t < 4; t++) {
            Due.due("put(0, " + t + ")", x.put(0, t), 3 - t);
        }
        Due.due("put(1, 4)", x.put(1, 4), 0);
    }

    // ---- how many acts, and which answer is the first

    private static RoomsOfHours withStays(String text, int stays) {
        RoomsOfHours x = Due.laid(text);
        for (int n = 0; n < stays; n++) {
            x.stay(1, 1);
        }
        return x;
    }

    private static void actsAtMost() {
        Due.sentence("ACTS (40 at most): STAY");
        RoomsOfHours stay = withStays(PLAIN_HOUSE, 39);
        Due.due("count(4)", stay.count(4), 39);
        Due.due("stay(0, 24), the 40th", stay.stay(0, 24), 100288);
        Due.due("count(4)", stay.count(4), 40);
        Due.due("stay(0, 1), the 41st", stay.stay(0, 1), Due.FULL);
        Due.due("person(0, 1)", stay.person(0, 1), 100288);
        Due.due("person(0, 2)", stay.person(0, 2), 24);
        Due.sentence("ACTS (40 at most): GO");
        RoomsOfHours go = withStays(PLAIN_HOUSE, 39);
        Due.due("go(0, 0), the 40th", go.go(0, 0), 100012);
        Due.due("go(0, 0), the 41st", go.go(0, 0), Due.FULL);
        Due.due("person(0, 0)", go.person(0, 0), 1);
        Due.due("person(0, 4)", go.person(0, 4), 2);
        Due.sentence("ACTS (40 at most): TAKE");
        RoomsOfHours take = withStays(PLAIN_HOUSE, 39);
        Due.due("take(0, 0), the 40th", take.take(0, 0), 1);
        Due.due("take(0, 1), the 41st", take.take(0, 1), Due.FULL);
        Due.due("person(0, 3)", take.person(0, 3), 1);
        Due.due("thing(1, 2)", take.thing(1, 2), 0);
        Due.sentence("ACTS (40 at most): PUT");
        RoomsOfHours put = withStays(PLAIN_HOUSE, 37);
        put.take(0, 0);
        put.take(0, 1);
        Due.due("put(0, 0), the 40th", put.put(0, 0), 1);
        Due.due("put(0, 1), the 41st", put.put(0, 1), Due.FULL);
        Due.due("person(0, 3)", put.person(0, 3), 2);
        Due.sentence("ACTS of all PERSONS together are 40 at most");
        RoomsOfHours both = Due.laid(PLAIN_HOUSE);
        for (int n = 0; n < 40; n++) {
            both.stay(n % 2, 1);
        }
        Due.due("stay(0, 1)", both.stay(0, 1), Due.FULL);
        Due.due("stay(1, 1)", both.stay(1, 1), Due.FULL);
        Due.due("undo()", both.undo(), 39);
        Due.due("stay(0, 1) behind undo()", both.stay(0, 1), 100000 + 21 * 12);
        Due.due("stay(0, 1) again", both.stay(0, 1), Due.FULL);
    }

    private static void ofSeveralTheFirst() {
        RoomsOfHours x = withStays(PLAIN_HOUSE, 40);
        Due.sentence("Of several the first: BAD ahead of FULL");
        Due.due("stay(2, 1)", x.stay(2, 1), Due.BAD);
        Due.due("stay(0, 0)", x.stay(0, 0), Due.BAD);
        Due.due("stay(0, 25)", x.stay(0, 25), Due.BAD);
        Due.due("go(2, 0)", x.go(2, 0), Due.BAD);
        Due.due("go(0, 2)", x.go(0, 2), Due.BAD);
        Due.due("take(2, 0)", x.take(2, 0), Due.BAD);
        Due.due("take(0, 2)", x.take(0, 2), Due.BAD);
        Due.due("put(2, 0)", x.put(2, 0), Due.BAD);
        Due.due("put(0, 2)", x.put(0, 2), Due.BAD);
        Due.sentence("Of several the first: NO ahead of FULL");
        Due.due("go(0, 1)", x.go(0, 1), Due.NO);
        Due.due("take(1, 0)", x.take(1, 0), Due.NO);
        Due.due("put(0, 0)", x.put(0, 0), Due.NO);
        Due.sentence("FULL, where there is nothing ahead of it");
        Due.due("stay(0, 1)", x.stay(0, 1), Due.FULL);
        Due.due("go(0, 0)", x.go(0, 0), Due.FULL);
        Due.due("take(0, 0)", x.take(0, 0), Due.FULL);
        Due.due("count(4)", x.count(4), 40);
        Due.sentence("Of several the first: BAD ahead of NO");
        RoomsOfHours y = Due.laid(PLAIN_HOUSE);
        Due.due("go(2, 1)", y.go(2, 1), Due.BAD);
        Due.due("take(-1, 0)", y.take(-1, 0), Due.BAD);
        Due.due("put(-1, 0)", y.put(-1, 0), Due.BAD);
        Due.due("put(0, -1)", y.put(0, -1), Due.BAD);
    }

    // ---- undo

    private static void undoEach() {
        Due.sentence("UNDONE is the latest ACT: STAY");
        RoomsOfHours x = Due.laid(TICK_APART);
        x.take(0, 0);
        x.stay(0, 5);
        Due.due("undo()", x.undo(), 1);
        Due.due("person(0, 1)", x.person(0, 1), 100000);
        Due.due("person(0, 2)", x.person(0, 2), 0);
        Due.due("thing(0, 5)", x.thing(0, 5), 0);
        Due.sentence("UNDONE is the latest ACT: GO");
        x.go(0, 1);
        Due.due("undo()", x.undo(), 1);
        Due.due("person(0, 0)", x.person(0, 0), 0);
        Due.due("person(0, 1)", x.person(0, 1), 100000);
        Due.due("person(0, 4)", x.person(0, 4), 1);
        Due.sentence("UNDONE is the latest ACT: PUT");
        x.stay(0, 1);
        x.put(0, 0);
        Due.due("undo()", x.undo(), 2);
        Due.due("thing(0, 3)", x.thing(0, 3), 0);
        Due.due("thing(0, 4)", x.thing(0, 4), Due.NONE);
        Due.due("person(0, 3)", x.person(0, 3), 1);
        Due.sentence("UNDONE is the latest ACT: TAKE");
        x.undo();
        Due.due("undo()", x.undo(), 0);
        Due.due("thing(0, 2)", x.thing(0, 2), 0);
        Due.due("thing(0, 4)", x.thing(0, 4), 100000);
        Due.due("person(0, 3)", x.person(0, 3), 0);
        Due.sentence("UNDONE is the latest ACT, whoever did it");
        x.stay(0, 1);
        x.stay(1, 1);
        Due.due("undo()", x.undo(), 1);
        Due.due("person(0, 1)", x.person(0, 1), 100004);
        Due.due("person(1, 1)", x.person(1, 1), 100000);
    }

    private static void undoAsOften() {
        Due.sentence("UNDONE as often as there are any; NO");
        RoomsOfHours x = Due.laid(PLAIN_HOUSE);
        Due.due("undo() of none", x.undo(), Due.NO);
        for (int n = 0; n < 40; n++) {
            x.stay(0, 1);
        }
        for (int left = 39; left >= 0; left--) {
            Due.due("undo()", x.undo(), left);
            Due.due("person(0, 1)", x.person(0, 1), 100000 + 12 * left);
        }
        Due.due("undo() behind the first", x.undo(), Due.NO);
        Due.due("count(4)", x.count(4), 0);
        Due.due("stay(0, 1) behind it", x.stay(0, 1), 100012);
        Due.due("what was refused is not undone", x.stay(0, 25), Due.BAD);
        Due.due("undo()", x.undo(), 0);
    }

    private static void undoLeavesTheRest() {
        Due.sentence("UNDONE is an ACT, nothing SEEN, KEPT or written");
        RoomsOfHours x = new RoomsOfHours();
        x.stay(0, 1);
        x.seen(0, 1, 1);
        x.keep();
        x.write('r');
        x.undo();
        int[] counts = {3, 3, 2, 2, 0, 1, 1, 1, 1};
        for (int what = 0; what < counts.length; what++) {
            Due.due("count(" + what + ")", x.count(what), counts[what]);
        }
        Due.due("back(): what was kept is as it was", x.back(), 0);
        Due.due("person(0, 1)", x.person(0, 1), 100012);
    }

    // ---- meet

    private static void meet(RoomsOfHours x, int i, int j, int tick, int room) {
        Due.due("meet(" + i + ", " + j + ", 0)", x.meet(i, j, 0), tick);
        Due.due("meet(" + i + ", " + j + ", 1)", x.meet(i, j, 1), room);
        Due.due("meet(" + j + ", " + i + ", 0)", x.meet(j, i, 0), tick);
        Due.due("meet(" + j + ", " + i + ", 1)", x.meet(j, i, 1), room);
    }

    private static void visitEnds() {
        Due.sentence("A VISIT is from the TICK at which one comes into a ROOM to that at which he goes out, both counted");
        RoomsOfHours x = Due.laid("r3,1,0;r4,1,0;r1,1,0;d0,1,0,0;d0,2,0,0;p0,0;p1,0;w0;");
        x.stay(0, 3);
        x.go(0, 1);
        // He is in room 0 from 0 to 12.
        x.stay(1, 4);
        x.go(1, 0);
        meet(x, 0, 1, 100012, 0);
        x.undo();
        x.stay(1, 1);
        x.go(1, 0);
        // The other comes at 15.
        meet(x, 0, 1, Due.NONE, Due.NONE);
        Due.sentence("a TICK apart they do not MEET");
        RoomsOfHours apart = Due.laid("r3,1,0;r4,1,0;d0,1,0,0;p0,0;p1,0;w0;");
        apart.stay(0, 2);
        apart.stay(1, 3);
        apart.go(1, 0);
        // From 0 to 8, and from 9 on.
        meet(apart, 0, 1, Due.NONE, Due.NONE);
        apart.stay(0, 1);
        meet(apart, 0, 1, 100009, 0);
        Due.sentence("(or where he is now)");
        RoomsOfHours now = Due.laid(PLAIN_HOUSE);
        now.go(0, 0);
        meet(now, 0, 1, Due.NONE, Due.NONE);
        now.stay(1, 1);
        meet(now, 0, 1, 100012, 1);
        Due.sentence("(first: 0)");
        meet(Due.laid("r1,1,0;p0,0;p0,9;"), 0, 1, 100000, 0);
        RoomsOfHours below = Due.laid("r1,1,0;r1,1,0;d0,1,1,1;p0,0;p1,0;w0;");
        below.go(0, 0);
        meet(below, 0, 1, Due.NONE, Due.NONE);
        below.stay(0, 1);
        meet(below, 0, 1, 100000, 1);
        Due.sentence("he goes out behind the W hours of going");
        RoomsOfHours going = Due.laid("r1,1,0;r1,1,0;d0,1,0,9;d1,0,0,0;p0,0;p1,0;w3;");
        going.go(0, 0);
        going.go(1, 1);
        meet(going, 0, 1, 100036, 0);
    }

    private static void visitsOfBoth() {
        Due.sentence("VISITS of both in one ROOM");
        RoomsOfHours x = Due.laid("r1,1,0;r1,1,0;p0,0;p0,0;p1,0;p1,0;");
        meet(x, 0, 1, 100000, 0);
        meet(x, 2, 3, 100000, 1);
        for (int i = 0; i < 2; i++) {
            for (int j = 2; j < 4; j++) {
                meet(x, i, j, Due.NONE, Due.NONE);
            }
        }
    }

    private static void meetFirstOfAll() {
        Due.sentence("Two MEET at the first TICK of all");
        RoomsOfHours x = Due.laid("r1,1,0;r1,1,0;d0,1,1,24;p0,0;p1,0;w0;");
        x.stay(0, 2);
        x.go(0, 0);
        x.stay(0, 24);
        meet(x, 0, 1, 100000, 1);
        // A visit told later, at lower ticks.
        RoomsOfHours low = Due.laid("r1,1,0;r1,1,0;d0,1,1,1;d0,1,1,2;p0,0;p0,0;w0;");
        meet(low, 0, 1, 100000, 0);
        low.go(0, 1);
        low.stay(0, 1);
        meet(low, 0, 1, 100000, 0);
        low.go(1, 0);
        meet(low, 0, 1, 100000 - 12, 1);
    }

    private static void meetLowestRoom() {
        Due.sentence("the ROOM (of several the lowest)");
        // Both are in room 2 and, by no hours at all, in room 1, then 0 at TICK 0.
        RoomsOfHours x = Due.laid("r1,1,0;r1,1,0;r1,1,0;d2,1,0,0;d1,0,0,0;p2,0;p2,0;w0;");
        meet(x, 0, 1, 100000, 2);
        x.go(0, 0);
        x.go(1, 0);
        meet(x, 0, 1, 100000, 1);
        x.go(0, 1);
        x.go(1, 1);
        meet(x, 0, 1, 100000, 0);
        x.go(0, 1);
        meet(x, 0, 1, 100000, 0);
        x.undo();
        x.undo();
        meet(x, 0, 1, 100000, 1);
    }

    private static void meetHimself() {
        Due.sentence("who MEETS himself: two VISITS of his own");
        RoomsOfHours one = Due.laid("r1,1,0;p0,0;");
        one.stay(0, 9);
        Due.due("meet(0, 0, 0) by one visit", one.meet(0, 0, 0), Due.NONE);
        Due.due("meet(0, 0, 1) by one visit", one.meet(0, 0, 1), Due.NONE);
        // An hour of room 1 is 4 ticks, one of room 2 is 3; he leaves room 0 at 12, and is in room 1 at 0.
        String text = "r1,1,0;r3,1,0;r4,1,0;d0,1,1,1;d0,2,0,0;d1,2,0,0;d0,1,0,0;p0,0;w0;";
        RoomsOfHours touching = Due.laid(text);
        touching.stay(0, 1);
        touching.go(0, 0);
        touching.stay(0, 3);
        Due.due("meet(0, 0, 0) in another room", touching.meet(0, 0, 0), Due.NONE);
        touching.go(0, 3);
        Due.due("meet(0, 0, 0): back when he goes", touching.meet(0, 0, 0), 100012);
        Due.due("meet(0, 0, 1): back when he goes", touching.meet(0, 0, 1), 0);
        RoomsOfHours later = Due.laid(text);
        later.stay(0, 1);
        later.go(0, 0);
        later.stay(0, 1);
        later.go(0, 2);
        later.stay(0, 3);
        later.go(0, 1);
        Due.due("person(0, 1)", later.person(0, 1), 100013);
        Due.due("meet(0, 0, 0): a tick behind", later.meet(0, 0, 0), Due.NONE);
        RoomsOfHours still = Due.laid("r1,1,0;r1,1,0;d0,1,0,0;p0,0;w0;");
        still.go(0, 0);
        Due.due("meet(0, 0, 0) by no hours, elsewhere", still.meet(0, 0, 0), Due.NONE);
        still.go(0, 0);
        Due.due("meet(0, 0, 0) by no hours, and back", still.meet(0, 0, 0), 100000);
    }

    private static void meetEdges() {
        Due.sentence("meet: such PERSONS as there are, alike too; what 0, 1");
        RoomsOfHours x = Due.laid("r1,1,0;p0,0;p0,0;");
        Due.range("meet(i, 1, 0)", 0, 1, i -> x.meet(i, 1, 0));
        Due.range("meet(0, j, 0)", 0, 1, j -> x.meet(0, j, 0));
        Due.range("meet(0, 1, what)", 0, 1, what -> x.meet(0, 1, what));
        Due.range("meet(0, 0, what)", 0, 1, what -> x.meet(0, 0, what));
        Due.due("meet(1, 1, 0)", x.meet(1, 1, 0), Due.NONE);
        Due.due("meet(2, 2, 0)", x.meet(2, 2, 0), Due.BAD);
    }

    // ---- kept

    private static void keepAtMost() {
        Due.sentence("KEPT are all ACTS: 2 at most; how many; FULL");
        RoomsOfHours x = Due.laid(PLAIN_HOUSE);
        Due.due("count(6)", x.count(6), 0);
        Due.due("keep() of no acts", x.keep(), 1);
        Due.due("count(6)", x.count(6), 1);
        Due.due("keep()", x.keep(), 2);
        x.stay(0, 1);
        Due.due("keep() behind two", x.keep(), Due.FULL);
        Due.due("count(6)", x.count(6), 2);
        Due.due("back()", x.back(), 1);
        Due.due("count(4): the one refused was not kept", x.count(4), 0);
        Due.due("keep() behind back()", x.keep(), 2);
        Due.due("keep()", x.keep(), Due.FULL);
    }

    private static void backAsKeptLast() {
        Due.sentence("As KEPT last: how many are left; NO");
        RoomsOfHours x = Due.laid(PLAIN_HOUSE);
        x.stay(0, 9);
        Due.due("back() of none", x.back(), Due.NO);
        Due.due("person(0, 1): as it was", x.person(0, 1), 100108);
        x.take(0, 1);
        x.keep();
        x.put(0, 1);
        x.go(0, 0);
        x.keep();
        x.undo();
        x.undo();
        x.undo();
        x.undo();
        x.stay(1, 3);
        x.go(0, 0);
        Due.due("back() to the second", x.back(), 1);
        Due.due("count(4)", x.count(4), 4);
        int[] person = {1, 100120, 10, 0, 2};
        for (int what = 0; what < person.length; what++) {
            Due.due("person(0, " + what + ")", x.person(0, what), person[what]);
        }
        Due.due("person(1, 1)", x.person(1, 1), 100000);
        Due.due("thing(1, 4)", x.thing(1, 4), 100108);
        Due.due("back() to the first", x.back(), 0);
        Due.due("count(4)", x.count(4), 2);
        Due.due("person(0, 1)", x.person(0, 1), 100108);
        Due.due("person(0, 3)", x.person(0, 3), 2);
        Due.due("back() behind the last", x.back(), Due.NO);
        Due.due("count(4)", x.count(4), 2);
        Due.due("undo()", x.undo(), 1);
        Due.due("person(0, 3)", x.person(0, 3), 0);
        Due.due("undo()", x.undo(), 0);
        Due.due("undo()", x.undo(), Due.NO);
    }

    private static void keptActsAlone() {
        Due.sentence("KEPT are all ACTS: nothing SEEN or written");
        RoomsOfHours x = new RoomsOfHours();
        x.stay(0, 1);
        x.seen(0, 1, 1);
        x.write('r');
        x.keep();
        x.seen(0, 1, 1);
        x.write('r');
        x.stay(0, 1);
        int[] kept = {3, 3, 2, 2, 2, 2, 1, 2, 1};
        for (int what = 0; what < kept.length; what++) {
            Due.due("count(" + what + ") behind keep()", x.count(what), kept[what]);
        }
        x.back();
        int[] had = {3, 3, 2, 2, 1, 2, 0, 2, 1};
        for (int what = 0; what < had.length; what++) {
            Due.due("count(" + what + ") behind back()", x.count(what), had[what]);
        }
    }

    private static void keptFull() {
        Due.sentence("KEPT are all ACTS: 40, or none");
        RoomsOfHours x = Due.laid(PLAIN_HOUSE);
        x.keep();
        for (int n = 0; n < 13; n++) {
            x.take(0, 0);
            x.go(0, 0);
            x.put(0, 0);
            x.take(0, 0);
            x.go(0, 0);
            x.put(0, 0);
        }
        Due.due("count(4)", x.count(4), 40);
        Due.due("keep() of 40", x.keep(), 2);
        int[] thing = new int[6];
        for (int what = 0; what < 6; what++) {
            thing[what] = x.thing(0, what);
        }
        for (int n = 0; n < 40; n++) {
            x.undo();
        }
        for (int n = 0; n < 40; n++) {
            x.stay(1, 1);
        }
        Due.due("back() to 40", x.back(), 1);
        Due.due("count(4)", x.count(4), 40);
        for (int what = 0; what < 6; what++) {
            Due.due("thing(0, " + what + ")", x.thing(0, what), thing[what]);
        }
        Due.due("person(1, 1)", x.person(1, 1), 100000);
        Due.due("stay(0, 1) behind it", x.stay(0, 1), Due.FULL);
        Due.due("back() to none", x.back(), 0);
        Due.due("count(4)", x.count(4), 0);
        Due.due("person(0, 4)", x.person(0, 4), 1);
        Due.due("undo()", x.undo(), Due.NO);
    }

    private static void countEdges() {
        Due.sentence("count: what 0 to 8");
        RoomsOfHours x = new RoomsOfHours();
        Due.range("count(what)", 0, 8, what -> x.count(what));
        x.stay(0, 1);
        x.stay(0, 1);
        x.seen(0, 1, 1);
        x.seen(0, 1, 1);
        x.seen(0, 1, 1);
        x.keep();
        Due.type(x, "rrrr");
        int[] counts = {3, 3, 2, 2, 2, 3, 1, 4, 1};
        for (int what = 0; what < counts.length; what++) {
            Due.due("count(" + what + ")", x.count(what), counts[what]);
        }
        RoomsOfHours least = Due.laid("r1,1,0;p0,0;w0;");
        int[] leasts = {1, 0, 1, 0, 0, 0, 0, 15, 0};
        for (int what = 0; what < leasts.length; what++) {
            Due.due("count(" + what + ") of the least house", least.count(what), leasts[what]);
        }
    }
}
