/** Promises 1 and 6 to 11: a test of its own for each boundary of what is told of a house. */
public final class HouseEdgesTest {
    private static final String FULL_HOUSE = "r1,1,23;".repeat(6) + "d0,1,0,24;".repeat(8) + "p00,99;".repeat(4)
            + "t0,0,99;".repeat(5) + "w03;";
    /** An hour of room 0 is 4 ticks, one of room 1 is 3: persons can be a tick apart. */
    private static final String TICK_APART = "r3,1,0;r4,1,0;d0,1,0,0;d0,1,1,1;p0,0;p1,0;p0,0;t0,1,9;w0;";

    public static void main(String[] args) {
        newObjects();
        roomEdges();
        wholeTicks();
        clockEdges();
        clockModulo();
        clockBelowZero();
        clockLowestTerms();
        doorEdges();
        doorHours();
        personEdges();
        personThings();
        personVisits();
        thingEdges();
        thingLyingOrHad();
        thingAgeCut();
        worthEdges();
        worthSinceLater();
        worthHad();
        worthOfKinds();
        worthFarTicks();
        olderByHoursOfTheRoom();
        olderByHisOwnHours();
        olderByParts();
        Due.end();
    }

    private static void newObjects() {
        Due.sentence("A new object: at first r1,1,0;r2,1,6;r1,3,12;d0,1,0,1;d1,2,1,2;d2,0,0,0;p0,20;p1,30;t1,1,9;t0,2,4;");
        RoomsOfHours first = new RoomsOfHours();
        RoomsOfHours told = Due.laid("r1,1,0;r2,1,6;r1,3,12;d0,1,0,1;d1,2,1,2;d2,0,0,0;p0,20;p1,30;t1,1,9;t0,2,4;");
        for (int n = 0; n < 4; n++) {
            for (int what = 0; what < 6; what++) {
                Due.due("room(" + n + ", " + what + ")", first.room(n, what), told.room(n, what));
                Due.due("door(" + n + ", " + what + ")", first.door(n, what), told.door(n, what));
                Due.due("person(" + n + ", " + what + ")", first.person(n, what), told.person(n, what));
                Due.due("thing(" + n + ", " + what + ")", first.thing(n, what), told.thing(n, what));
            }
        }
        Due.due("undo() at first", first.undo(), Due.NO);
        Due.due("back() at first", first.back(), Due.NO);
        Due.due("forget() at first", first.forget(), 0);
        Due.due("fault() at first", first.fault(), Due.NONE);
        Due.due("lay() at first: THE TEXT is empty", first.lay(), Due.NO);
        Due.sentence("each object is its own");
        RoomsOfHours one = new RoomsOfHours();
        RoomsOfHours other = new RoomsOfHours();
        one.stay(0, 5);
        one.take(0, 1);
        one.seen(0, 1, 1);
        one.keep();
        one.write('r');
        int[] counts = {3, 3, 2, 2, 0, 0, 0, 0, 1};
        for (int what = 0; what < counts.length; what++) {
            Due.due("count(" + what + ") of the other", other.count(what), counts[what]);
            Due.due("count(" + what + ") of a third", new RoomsOfHours().count(what), counts[what]);
        }
        Due.due("person(0, 1) of the other", other.person(0, 1), 100000);
    }

    private static void roomEdges() {
        Due.sentence("room: such as there are; what 0 to 3");
        RoomsOfHours x = new RoomsOfHours();
        Due.range("room(r, 0) of three", 0, 2, r -> x.room(r, 0));
        Due.range("room(r, 3) of three", 0, 2, r -> x.room(r, 3));
        Due.range("room(2, what)", 0, 3, what -> x.room(2, what));
        RoomsOfHours one = Due.laid("r4,1,23;p0,0;");
        Due.range("room(r, 0) of one", 0, 0, r -> one.room(r, 0));
        RoomsOfHours six = Due.laid(FULL_HOUSE);
        Due.range("room(r, 0) of six", 0, 5, r -> six.room(r, 0));
        Due.due("room(0, 0)", one.room(0, 0), 4);
        Due.due("room(0, 1)", one.room(0, 1), 1);
        Due.due("room(0, 2)", one.room(0, 2), 23);
        Due.due("room(0, 3)", one.room(0, 3), 3);
    }

    private static void wholeTicks() {
        Due.sentence("An hour of a ROOM is 12 TICKS times Q, by P: whole TICKS");
        int[][] ticks = {{12, 24, 36, 48}, {6, 12, 18, 24}, {4, 8, 12, 16}, {3, 6, 9, 12}};
        for (int p = 1; p <= 4; p++) {
            for (int q = 1; q <= 4; q++) {
                RoomsOfHours x = Due.laid("r" + p + "," + q + ",0;p0,0;");
                Due.due("room(0, 3) of " + p + " by " + q, x.room(0, 3), ticks[p - 1][q - 1]);
                Due.due("stay(0, 1) in " + p + " by " + q, x.stay(0, 1), 100000 + ticks[p - 1][q - 1]);
            }
        }
    }

    private static void clock(RoomsOfHours x, int r, int t, int above, int below) {
        Due.due("clock(" + r + ", " + t + ", 0)", x.clock(r, t, 0), above);
        Due.due("clock(" + r + ", " + t + ", 1)", x.clock(r, t, 1), below);
    }

    private static void clockEdges() {
        Due.sentence("clock: such ROOMS as there are; TICK t (-9999 to 9999); part 0, 1");
        RoomsOfHours x = new RoomsOfHours();
        Due.range("clock(r, 0, 0)", 0, 2, r -> x.clock(r, 0, 0));
        Due.range("clock(0, t, 0)", -9999, 9999, t -> x.clock(0, t, 0));
        Due.range("clock(2, t, 1)", -9999, 9999, t -> x.clock(2, t, 1));
        Due.range("clock(0, 0, part)", 0, 1, part -> x.clock(0, 0, part));
        // 833 and 1/4 hours on from 0, modulo 24; and as many back.
        clock(x, 0, 9999, 69, 4);
        clock(x, 0, -9999, 27, 4);
        RoomsOfHours fast = Due.laid("r4,1,23;r1,4,23;p0,0;");
        // 3333 hours on and back from 23.
        clock(fast, 0, 9999, 20, 1);
        clock(fast, 0, -9999, 2, 1);
        // 208 and 5/16 hours.
        clock(fast, 1, 9999, 245, 16);
        clock(fast, 1, -9999, 107, 16);
    }

    private static void clockModulo() {
        Due.sentence("Its clock shows O and the TICK times P, by 12 times Q, together, modulo 24");
        RoomsOfHours x = Due.laid("r1,1,0;r1,4,23;r4,1,23;p0,0;");
        clock(x, 0, 0, 0, 1);
        clock(x, 0, 276, 23, 1);
        clock(x, 0, 287, 287, 12);
        clock(x, 0, 288, 0, 1);
        clock(x, 0, 289, 1, 12);
        clock(x, 1, 0, 23, 1);
        clock(x, 1, 47, 1151, 48);
        clock(x, 1, 48, 0, 1);
        clock(x, 1, 49, 1, 48);
        clock(x, 2, 0, 23, 1);
        clock(x, 2, 2, 71, 3);
        clock(x, 2, 3, 0, 1);
        clock(x, 2, 4, 1, 3);
    }

    private static void clockBelowZero() {
        Due.sentence("modulo 24 (0 or more); one can be at TICKS below 0, too");
        RoomsOfHours x = Due.laid("r1,1,0;r1,4,0;r4,1,1;p0,0;");
        clock(x, 0, -1, 287, 12);
        clock(x, 0, -12, 23, 1);
        clock(x, 0, -287, 1, 12);
        clock(x, 0, -288, 0, 1);
        clock(x, 0, -289, 287, 12);
        clock(x, 1, -1, 1151, 48);
        clock(x, 1, -1152, 0, 1);
        clock(x, 2, -3, 0, 1);
        clock(x, 2, -4, 71, 3);
    }

    private static void clockLowestTerms() {
        Due.sentence("above, below, in lowest terms");
        RoomsOfHours x = Due.laid("r2,2,0;r1,4,0;r3,4,5;p0,0;");
        clock(x, 0, 0, 0, 1);
        clock(x, 0, 1, 1, 12);
        clock(x, 0, 6, 1, 2);
        clock(x, 0, 8, 2, 3);
        clock(x, 0, 12, 1, 1);
        clock(x, 1, 1, 1, 48);
        clock(x, 1, 2, 1, 24);
        clock(x, 1, 3, 1, 16);
        clock(x, 1, 32, 2, 3);
        clock(x, 2, 1, 81, 16);
        clock(x, 2, 16, 6, 1);
        clock(x, 2, 304, 0, 1);
    }

    private static void doorEdges() {
        Due.sentence("door: such as there are; what 0 to 2");
        RoomsOfHours x = new RoomsOfHours();
        Due.range("door(d, 0) of three", 0, 2, d -> x.door(d, 0));
        Due.range("door(d, 2) of three", 0, 2, d -> x.door(d, 2));
        Due.range("door(2, what)", 0, 2, what -> x.door(2, what));
        RoomsOfHours eight = Due.laid(FULL_HOUSE);
        Due.range("door(d, 0) of eight", 0, 7, d -> eight.door(d, 0));
        RoomsOfHours without = Due.laid("r1,1,0;p0,0;");
        for (int what = 0; what < 3; what++) {
            Due.due("door(0, " + what + ") without doors", without.door(0, what), Due.BAD);
        }
    }

    private static void doorHours() {
        Due.sentence("hours that it leads on from A, and 24");
        RoomsOfHours x = Due.laid("r1,1,0;r1,1,0;d0,1,0,0;d0,1,1,0;d0,1,0,1;d0,1,1,1;d0,1,0,24;d0,1,1,24;d1,0,1,24;p0,0;");
        int[] due = {24, 24, 25, 23, 48, 0, 0};
        for (int d = 0; d < due.length; d++) {
            Due.due("door(" + d + ", 2)", x.door(d, 2), due[d]);
        }
        Due.due("door(6, 0)", x.door(6, 0), 1);
        Due.due("door(6, 1)", x.door(6, 1), 0);
    }

    private static void personEdges() {
        Due.sentence("person: such as there are; what 0 to 4");
        RoomsOfHours x = new RoomsOfHours();
        Due.range("person(i, 0) of two", 0, 1, i -> x.person(i, 0));
        Due.range("person(i, 4) of two", 0, 1, i -> x.person(i, 4));
        Due.range("person(1, what)", 0, 4, what -> x.person(1, what));
        RoomsOfHours four = Due.laid(FULL_HOUSE);
        Due.range("person(i, 2) of four", 0, 3, i -> four.person(i, 2));
        RoomsOfHours one = Due.laid("r1,1,0;p0,0;");
        Due.range("person(i, 2) of one", 0, 0, i -> one.person(i, 2));
        Due.sentence("his TICK, below 0 too: 100000 more");
        RoomsOfHours low = Due.laid("r1,1,0;r1,1,0;d0,1,1,24;p0,0;w0;");
        low.go(0, 0);
        Due.due("person(0, 1)", low.person(0, 1), 100000 - 288);
        Due.sentence("how old he is: more than 99 too");
        RoomsOfHours old = Due.laid("r1,1,0;p0,99;");
        old.stay(0, 1);
        Due.due("person(0, 2)", old.person(0, 2), 100);
        old.stay(0, 24);
        Due.due("person(0, 2)", old.person(0, 2), 124);
    }

    private static void personThings() {
        Due.sentence("THINGS he has, as bits");
        RoomsOfHours x = Due.laid("r1,1,0;p0,0;p0,0;t0,0,1;t0,0,1;t0,0,1;t0,0,1;t0,0,1;");
        Due.due("person(0, 3) of none", x.person(0, 3), 0);
        int bits = 0;
        for (int t = 4; t >= 0; t--) {
            x.take(0, t);
            bits |= 1 << t;
            Due.due("person(0, 3)", x.person(0, 3), bits);
            Due.due("person(1, 3)", x.person(1, 3), 0);
        }
        Due.due("person(0, 3) of all five", x.person(0, 3), 31);
        x.put(0, 4);
        Due.due("person(0, 3) behind put()", x.person(0, 3), 15);
    }

    private static void personVisits() {
        Due.sentence("VISITS: one at first, one more by each DOOR");
        RoomsOfHours x = Due.laid("r1,1,0;r1,1,0;d0,1,0,0;p0,0;p1,0;");
        for (int n = 1; n <= 40; n++) {
            Due.due("person(0, 4)", x.person(0, 4), n);
            x.go(0, 0);
        }
        Due.due("person(0, 4) by 40 doors", x.person(0, 4), 41);
        Due.due("person(1, 4) of the other", x.person(1, 4), 1);
        x.undo();
        x.stay(0, 1);
        Due.due("person(0, 4): staying is none", x.person(0, 4), 40);
    }

    private static void thingEdges() {
        Due.sentence("thing: such as there are; what 0 to 5");
        RoomsOfHours x = new RoomsOfHours();
        Due.range("thing(t, 0) of two", 0, 1, t -> x.thing(t, 0));
        Due.range("thing(t, 5) of two", 0, 1, t -> x.thing(t, 5));
        Due.range("thing(1, what)", 0, 5, what -> x.thing(1, what));
        RoomsOfHours five = Due.laid(FULL_HOUSE);
        Due.range("thing(t, 1) of five", 0, 4, t -> five.thing(t, 1));
        RoomsOfHours without = Due.laid("r1,1,0;p0,0;");
        for (int what = 0; what < 6; what++) {
            Due.due("thing(0, " + what + ") without things", without.thing(0, what), Due.BAD);
        }
    }

    private static void thing(RoomsOfHours x, int t, int... due) {
        for (int what = 0; what < due.length; what++) {
            Due.due("thing(" + t + ", " + what + ")", x.thing(t, what), due[what]);
        }
    }

    private static void thingLyingOrHad() {
        Due.sentence("its ROOM (2; NONE: somebody has it), who has it (3; NONE), the TICK since when it lies there (4; NONE)");
        RoomsOfHours x = Due.laid("r1,1,0;r1,1,0;d0,1,1,24;p1,0;p0,0;t0,3,7;");
        thing(x, 0, 3, 7, 0, Due.NONE, 100000, 0);
        x.take(1, 0);
        thing(x, 0, 3, 7, Due.NONE, 1, Due.NONE, 0);
        x.go(1, 0);
        thing(x, 0, 3, 7, Due.NONE, 1, Due.NONE, 1);
        x.put(1, 0);
        thing(x, 0, 3, 7, 1, Due.NONE, 100000 + 12 - 288, 1);
        x.take(0, 0);
        // He is there 276 ticks later than it was put: 23 hours.
        thing(x, 0, 3, 7, Due.NONE, 0, Due.NONE, 24);
    }

    private static void thingAgeCut() {
        Due.sentence("how old it was then, or is with him: hours, cut");
        // An hour of room 0 is 48 ticks, of room 1 it is 3: it is taken at 45 and 48 ticks.
        RoomsOfHours x = Due.laid("r1,4,0;r4,1,0;d1,0,0,0;p1,0;p1,0;t0,0,1;t0,0,1;w0;");
        x.stay(0, 15);
        x.go(0, 0);
        x.take(0, 0);
        Due.due("thing(0, 5) at 45 ticks", x.thing(0, 5), 0);
        x.stay(1, 16);
        x.go(1, 0);
        x.take(1, 1);
        Due.due("thing(1, 5) at 48 ticks", x.thing(1, 5), 1);
        x.put(1, 1);
        x.stay(1, 3);
        Due.due("thing(1, 5): as it was when it was put", x.thing(1, 5), 1);
        x.stay(0, 1);
        Due.due("thing(0, 5): an hour and 15/16", x.thing(0, 5), 1);
        x.put(0, 0);
        x.stay(0, 1);
        x.take(0, 0);
        Due.due("thing(0, 5): two hours and 15/16", x.thing(0, 5), 2);
    }

    private static void worthEdges() {
        Due.sentence("worth: such THINGS as there are; TICK t (-9999 to 9999)");
        RoomsOfHours x = new RoomsOfHours();
        Due.range("worth(t, 0)", 0, 1, t -> x.worth(t, 0));
        Due.range("worth(0, tick)", -9999, 9999, tick -> x.worth(0, tick));
        Due.due("worth(0, -9999)", x.worth(0, -9999), Due.NO);
        Due.due("worth(0, 9999) of tea", x.worth(0, 9999), 0);
        Due.due("worth(1, 9999) of soup", x.worth(1, 9999), 1);
        RoomsOfHours without = Due.laid("r1,1,0;p0,0;");
        Due.due("worth(0, 0) without things", without.worth(0, 0), Due.BAD);
        Due.sentence("Of several the first: BAD ahead of NO");
        Due.due("worth(0, -10000)", x.worth(0, -10000), Due.BAD);
        x.take(0, 1);
        Due.due("worth(1, 10000) of one that is had", x.worth(1, 10000), Due.BAD);
        Due.due("worth(1, -10000) of one that is had", x.worth(1, -10000), Due.BAD);
    }

    private static void worthSinceLater() {
        Due.sentence("worth, NO: it lies there since later");
        RoomsOfHours x = Due.laid(TICK_APART);
        Due.due("worth(0, -1)", x.worth(0, -1), Due.NO);
        Due.due("worth(0, 0)", x.worth(0, 0), 9);
        x.take(0, 0);
        x.stay(0, 2);
        x.put(0, 0);
        Due.due("worth(0, 7), put at 8", x.worth(0, 7), Due.NO);
        Due.due("worth(0, 8), put at 8", x.worth(0, 8), 7);
        x.undo();
        x.go(0, 1);
        x.put(0, 0);
        Due.due("worth(0, -5), put at -4", x.worth(0, -5), Due.NO);
        Due.due("worth(0, -4), put at -4", x.worth(0, -4), 7);
        Due.due("worth(0, -2)", x.worth(0, -2), 7);
        Due.due("worth(0, -1), an hour of room 1 later", x.worth(0, -1), 6);
    }

    private static void worthHad() {
        Due.sentence("worth, NO: somebody has it");
        RoomsOfHours x = Due.laid(TICK_APART);
        x.take(0, 0);
        for (int tick : new int[] {-9999, -1, 0, 1, 9999}) {
            Due.due("worth(0, " + tick + ")", x.worth(0, tick), Due.NO);
        }
        x.put(0, 0);
        Due.due("worth(0, 0) put again", x.worth(0, 0), 9);
    }

    private static void worthOfKinds() {
        RoomsOfHours x = Due.laid("r4,1,0;p0,0;t0,0,99;t0,1,99;t0,2,99;t0,3,99;t0,1,1;");
        // An hour is 3 ticks: 98 hours at 294, 99 at 297.
        int[] ticks = {0, 2, 3, 293, 294, 296, 297, 299, 300, 9999};
        int[][] due = {
            {99, 99, 99, 99, 99, 99, 99, 99, 99, 99},
            {99, 99, 98, 2, 1, 1, 0, 0, 0, 0},
            {0, 0, 0, 0, 0, 0, 1, 1, 1, 1},
            {1, 1, 1, 1, 1, 1, 0, 0, 0, 0},
            {1, 1, 0, 0, 0, 0, 0, 0, 0, 0}};
        String[] said = {"of a PLAIN one N", "of TEA N less that, 0 at least", "of SOUP 1, if that is N or more, else 0",
            "of BREAD 1, if it is less than N, else 0", "of TEA N less that, 0 at least"};
        for (int t = 0; t < due.length; t++) {
            Due.sentence(said[t]);
            for (int n = 0; n < ticks.length; n++) {
                Due.due("worth(" + t + ", " + ticks[n] + ")", x.worth(t, ticks[n]), due[t][n]);
            }
        }
        RoomsOfHours least = Due.laid("r1,1,0;p0,0;t0,0,1;t0,2,1;t0,3,1;");
        int[][] ofOne = {{1, 1, 1}, {0, 0, 1}, {1, 1, 0}};
        for (int t = 0; t < 3; t++) {
            Due.sentence("WORTH of N 1, kind " + least.thing(t, 0));
            Due.due("worth(" + t + ", 0)", least.worth(t, 0), ofOne[t][0]);
            Due.due("worth(" + t + ", 11)", least.worth(t, 11), ofOne[t][1]);
            Due.due("worth(" + t + ", 12)", least.worth(t, 12), ofOne[t][2]);
        }
    }

    private static void worthFarTicks() {
        Due.sentence("WORTH for who looks at a TICK, of a THING that was put beyond the TICKS that can be told");
        RoomsOfHours high = Due.laid("r1,4,0;p0,0;t0,0,9;");
        high.take(0, 0);
        for (int n = 0; n < 9; n++) {
            high.stay(0, 24);
        }
        high.put(0, 0);
        Due.due("thing(0, 4)", high.thing(0, 4), 110368);
        Due.due("worth(0, 9999), put at 10368", high.worth(0, 9999), Due.NO);
        RoomsOfHours low = Due.laid("r4,1,0;r4,1,0;d0,1,1,24;d1,0,1,24;p0,0;t0,1,9;t0,2,9;w0;");
        low.take(0, 0);
        low.take(0, 1);
        for (int n = 0; n < 35; n++) {
            low.go(0, n % 2);
        }
        low.put(0, 0);
        low.put(0, 1);
        Due.due("thing(0, 4)", low.thing(0, 4), 100000 - 10080);
        // 81 ticks, 27 hours, behind it was put.
        Due.due("worth(0, -9999), put at -10080", low.worth(0, -9999), 0);
        Due.due("worth(1, -9999), put at -10080", low.worth(1, -9999), 1);
    }

    private static void olderByHoursOfTheRoom() {
        Due.sentence("Where a THING lies it is older by the hours of that ROOM from since when it lies there till it is taken");
        RoomsOfHours x = Due.laid("r4,1,0;r1,4,0;d0,1,0,0;p1,0;p0,0;t0,1,99;t1,1,99;w0;");
        x.stay(0, 1);
        x.take(0, 1);
        Due.due("thing(1, 5): one hour of 48 ticks", x.thing(1, 5), 1);
        x.go(0, 0);
        x.take(0, 0);
        Due.due("thing(0, 5): sixteen hours of 3 ticks", x.thing(0, 5), 16);
        x.put(0, 0);
        x.put(0, 1);
        Due.due("worth(0, 48)", x.worth(0, 48), 83);
        Due.due("worth(0, 51)", x.worth(0, 51), 82);
        Due.due("worth(1, 50)", x.worth(1, 50), 98);
        Due.due("worth(1, 51): by the hours of the room where it lies now", x.worth(1, 51), 97);
    }

    private static void olderByHisOwnHours() {
        Due.sentence("who has it: by his own hours, as they go by");
        RoomsOfHours x = Due.laid("r1,4,0;r4,1,0;d0,1,0,24;p0,0;p0,0;t0,1,99;t0,1,99;w3;");
        x.take(0, 0);
        x.stay(1, 9);
        Due.due("thing(0, 5): another's hours are none of its own", x.thing(0, 5), 0);
        x.stay(0, 24);
        Due.due("thing(0, 5) behind 24 hours", x.thing(0, 5), 24);
        x.go(0, 0);
        Due.due("thing(0, 5): W hours of going, none of the door's", x.thing(0, 5), 27);
        x.stay(0, 1);
        Due.due("thing(0, 5)", x.thing(0, 5), 28);
        Due.due("thing(1, 5): that which lies there is as it was", x.thing(1, 5), 0);
        RoomsOfHours all = Due.laid("r1,1,0;p0,0;" + "t0,1,99;".repeat(5));
        for (int t = 0; t < 5; t++) {
            all.take(0, t);
        }
        all.stay(0, 24);
        for (int t = 0; t < 5; t++) {
            Due.due("thing(" + t + ", 5) of five that he has", all.thing(t, 5), 24);
        }
    }

    private static void olderByParts() {
        Due.sentence("by how many hours old it is (cut): parts of hours come together");
        // An hour of room 0 is 36 ticks, of room 1 it is 48; of rooms 2 and 3, to come from, it is 4 and 3.
        String text = "r1,3,0;r1,4,0;r3,1,0;r4,1,0;d0,1,0,0;d2,0,0,0;d3,0,0,0;p2,0;p3,0;t0,1,9;t0,3,1;w0;";
        RoomsOfHours x = Due.laid(text);
        x.stay(0, 2);
        x.go(0, 1);
        x.take(0, 0);
        x.take(0, 1);
        x.go(0, 0);
        x.put(0, 0);
        x.put(0, 1);
        // 8 by 36 and 37 by 48 are 143 by 144.
        Due.due("worth(0, 45)", x.worth(0, 45), 9);
        Due.due("worth(1, 45)", x.worth(1, 45), 1);
        Due.due("worth(0, 46)", x.worth(0, 46), 8);
        Due.due("worth(1, 46)", x.worth(1, 46), 0);
        RoomsOfHours whole = Due.laid(text);
        whole.stay(1, 1);
        whole.go(1, 2);
        whole.take(1, 0);
        whole.go(1, 0);
        whole.put(1, 0);
        // 3 by 36 and 44 by 48 are just an hour.
        Due.due("worth(0, 46)", whole.worth(0, 46), 9);
        Due.due("worth(0, 47)", whole.worth(0, 47), 8);
    }
}
