/** Promises 12 to 17 and 31 to 33: acts, undone and kept, and who meets whom. */
public final class ActsTest {
    private static final String TWO_WAYS = "r1,1,0;r1,1,0;d0,1,1,5;d0,1,0,0;p0,0;p1,10;t0,1,50;t1,2,3;";

    public static void main(String[] args) {
        staying();
        going();
        takingAndPutting();
        agesInParts();
        full();
        undoing();
        meeting();
        meetingOneself();
        keeping();
        counting();
        Due.end();
    }

    private static void staying() {
        RoomsOfHours x = new RoomsOfHours();
        Due.due("stay(0, 0)", x.stay(0, 0), Due.BAD);
        Due.due("stay(0, 25)", x.stay(0, 25), Due.BAD);
        Due.due("stay(2, 1)", x.stay(2, 1), Due.BAD);
        Due.due("stay(-1, 1)", x.stay(-1, 1), Due.BAD);
        Due.due("count(4)", x.count(4), 0);
        Due.due("stay(0, 24)", x.stay(0, 24), 100288);
        Due.due("stay(1, 1)", x.stay(1, 1), 100006);
        Due.due("person(1, 2)", x.person(1, 2), 31);
        Due.due("person(0, 4): staying is no visit", x.person(0, 4), 1);
    }

    private static void going() {
        RoomsOfHours x = Due.laid(TWO_WAYS + "w3;");
        Due.due("go(0, 2)", x.go(0, 2), Due.BAD);
        Due.due("go(0, -1)", x.go(0, -1), Due.BAD);
        Due.due("go(2, 0)", x.go(2, 0), Due.BAD);
        Due.due("go(0, 0)", x.go(0, 0), 100000 + 36 - 60);
        Due.due("go(0, 0) the other way", x.go(0, 0), 100000 + 36 - 60 + 36 + 60);
        Due.due("person(0, 2)", x.person(0, 2), 6);
        RoomsOfHours y = new RoomsOfHours();
        Due.due("go(0, 1): none of his room", y.go(0, 1), Due.NO);
        Due.due("count(4)", y.count(4), 0);
        Due.due("go(0, 2) from its other side", y.go(0, 2), 100012);
        Due.due("person(0, 0)", y.person(0, 0), 2);
        Due.due("go(0, 1) against it", y.go(0, 1), 100012 + 36 + 24);
    }

    private static void takingAndPutting() {
        RoomsOfHours x = Due.laid(TWO_WAYS);
        Due.due("take(0, 2)", x.take(0, 2), Due.BAD);
        Due.due("take(2, 0)", x.take(2, 0), Due.BAD);
        Due.due("take(0, -1)", x.take(0, -1), Due.BAD);
        Due.due("put(0, 2)", x.put(0, 2), Due.BAD);
        Due.due("put(-1, 0)", x.put(-1, 0), Due.BAD);
        Due.due("put(0, 0): he has it not", x.put(0, 0), Due.NO);
        Due.due("take(0, 1): in another room", x.take(0, 1), Due.NO);
        Due.due("take(0, 0)", x.take(0, 0), 1);
        Due.due("take(0, 0): he has it", x.take(0, 0), Due.NO);
        Due.due("go(0, 0)", x.go(0, 0), 99952);
        Due.due("take(0, 1): not yet", x.take(0, 1), Due.NO);
        Due.due("put(1, 0): another has it", x.put(1, 0), Due.NO);
        Due.due("take(1, 0): another has it", x.take(1, 0), Due.NO);
        Due.due("put(0, 0)", x.put(0, 0), 0);
        Due.due("thing(0, 4)", x.thing(0, 4), 99952);
        Due.due("worth(0, -49)", x.worth(0, -49), Due.NO);
        Due.due("worth(0, -48)", x.worth(0, -48), 49);
        Due.due("take(1, 0) put there below 0", x.take(1, 0), 1);
        Due.due("thing(0, 5)", x.thing(0, 5), 5);
        Due.due("take(1, 1)", x.take(1, 1), 2);
        Due.due("put(1, 0)", x.put(1, 0), 1);
        Due.due("take(0, 0): there since later", x.take(0, 0), Due.NO);
        Due.due("stay(0, 4)", x.stay(0, 4), 100000);
        Due.due("take(0, 0) since his own tick", x.take(0, 0), 1);
        Due.due("count(4)", x.count(4), 8);
    }

    /** Hours of several rooms that are no whole ones come together to whole ones. */
    private static void agesInParts() {
        RoomsOfHours x = Due.laid("r1,4,0;r1,3,0;r1,1,0;d0,1,0,0;d2,0,0,0;d2,1,0,0;p2,0;p2,0;t0,1,9;w1;");
        // An hour of room 0 is 48 ticks: the thing is a quarter of one old at 12 ticks.
        x.go(0, 1);
        Due.due("take(0, 0)", x.take(0, 0), 1);
        Due.due("thing(0, 5)", x.thing(0, 5), 0);
        x.put(0, 0);
        Due.due("worth(0, 47)", x.worth(0, 47), 9);
        Due.due("worth(0, 48)", x.worth(0, 48), 8);
        x.take(0, 0);
        x.go(0, 0);
        x.put(0, 0);
        // 1 and 1/4 hours, at 60 ticks, in a room of 36 ticks an hour.
        Due.due("thing(0, 4)", x.thing(0, 4), 100060);
        Due.due("thing(0, 5)", x.thing(0, 5), 1);
        Due.due("worth(0, 86)", x.worth(0, 86), 8);
        Due.due("worth(0, 87)", x.worth(0, 87), 7);
    }

    private static void full() {
        RoomsOfHours x = Due.laid(TWO_WAYS);
        Due.due("take(0, 0)", x.take(0, 0), 1);
        for (int n = 2; n <= 40; n++) {
            x.stay(1, 1);
            Due.due("count(4)", x.count(4), n);
        }
        Due.due("stay(0, 1) behind 40", x.stay(0, 1), Due.FULL);
        Due.due("stay(0, 0) behind 40", x.stay(0, 0), Due.BAD);
        Due.due("go(0, 0) behind 40", x.go(0, 0), Due.FULL);
        Due.due("go(0, 2) behind 40", x.go(0, 2), Due.BAD);
        Due.due("put(0, 0) behind 40", x.put(0, 0), Due.FULL);
        Due.due("put(0, 1) behind 40", x.put(0, 1), Due.NO);
        Due.due("take(1, 1) behind 40", x.take(1, 1), Due.FULL);
        Due.due("take(1, 0) behind 40", x.take(1, 0), Due.NO);
        Due.due("person(0, 1) as it was", x.person(0, 1), 100000);
        Due.due("count(4)", x.count(4), 40);
        Due.due("undo()", x.undo(), 39);
        Due.due("stay(0, 1) again", x.stay(0, 1), 100012);
        RoomsOfHours y = Due.laid(TWO_WAYS);
        for (int n = 0; n < 40; n++) {
            y.go(0, n % 2);
        }
        Due.due("person(0, 4) by 40 doors", y.person(0, 4), 41);
        Due.due("go(0, 0) by a door more", y.go(0, 0), Due.FULL);
    }

    private static void undoing() {
        RoomsOfHours x = Due.laid(TWO_WAYS);
        Due.due("undo()", x.undo(), Due.NO);
        x.stay(0, 2);
        x.take(0, 0);
        x.go(0, 0);
        x.put(0, 0);
        Due.due("undo() of put", x.undo(), 3);
        Due.due("thing(0, 3)", x.thing(0, 3), 0);
        Due.due("thing(0, 5)", x.thing(0, 5), 3);
        Due.due("undo() of go", x.undo(), 2);
        Due.due("person(0, 0)", x.person(0, 0), 0);
        Due.due("person(0, 1)", x.person(0, 1), 100024);
        Due.due("person(0, 2)", x.person(0, 2), 2);
        Due.due("person(0, 4)", x.person(0, 4), 1);
        Due.due("thing(0, 5)", x.thing(0, 5), 2);
        Due.due("undo() of take", x.undo(), 1);
        Due.due("thing(0, 2)", x.thing(0, 2), 0);
        Due.due("thing(0, 4)", x.thing(0, 4), 100000);
        Due.due("thing(0, 5)", x.thing(0, 5), 0);
        Due.due("undo() of stay", x.undo(), 0);
        Due.due("person(0, 1)", x.person(0, 1), 100000);
        Due.due("undo()", x.undo(), Due.NO);
    }

    private static void meeting() {
        RoomsOfHours x = Due.laid(TWO_WAYS);
        Due.due("meet(0, 1, 0) in rooms unlike", x.meet(0, 1, 0), Due.NONE);
        Due.due("meet(0, 1, 1) in rooms unlike", x.meet(0, 1, 1), Due.NONE);
        for (int bad : Due.WRONG) {
            Due.due("meet(" + bad + ", 0, 0)", x.meet(bad, 0, 0), Due.BAD);
            Due.due("meet(0, " + bad + ", 0)", x.meet(0, bad, 0), Due.BAD);
            Due.due("meet(0, 1, " + bad + ")", x.meet(0, 1, bad), Due.BAD);
        }
        Due.due("meet(0, 1, 2)", x.meet(0, 1, 2), Due.BAD);
        x.go(0, 1);
        Due.due("meet(0, 1, 0): the other is not there at 12", x.meet(0, 1, 0), Due.NONE);
        x.stay(1, 1);
        Due.due("meet(0, 1, 0): there at 12", x.meet(0, 1, 0), 100012);
        Due.due("meet(1, 0, 0)", x.meet(1, 0, 0), 100012);
        Due.due("meet(1, 0, 1)", x.meet(1, 0, 1), 1);
        // The hours of going are still in the room: 12 to 24 there.
        RoomsOfHours y = Due.laid("r1,1,0;r1,1,0;d0,1,0,0;d0,1,0,1;p0,0;p1,0;");
        y.go(1, 0);
        Due.due("meet(0, 1, 0)", y.meet(0, 1, 0), Due.NONE);
        y.go(0, 0);
        Due.due("meet(0, 1, 0): he goes out at 12", y.meet(0, 1, 0), 100012);
        Due.due("meet(0, 1, 1): in two rooms at once, the lowest", y.meet(0, 1, 1), 0);
        Due.due("meet(1, 0, 1): in two rooms at once, the lowest", y.meet(1, 0, 1), 0);
        RoomsOfHours z = Due.laid("r1,1,0;p0,0;p0,9;");
        Due.due("meet(0, 1, 0) at first", z.meet(0, 1, 0), 100000);
        Due.due("meet(0, 1, 1) at first", z.meet(0, 1, 1), 0);
    }

    private static void meetingOneself() {
        RoomsOfHours x = Due.laid("r1,1,0;r1,1,0;d0,1,1,3;d0,1,0,0;p0,0;w0;");
        Due.due("meet(0, 0, 0) by one visit", x.meet(0, 0, 0), Due.NONE);
        x.stay(0, 2);
        x.go(0, 0);
        Due.due("meet(0, 0, 0) from elsewhere", x.meet(0, 0, 0), Due.NONE);
        x.go(0, 1);
        Due.due("meet(0, 0, 0) not yet", x.meet(0, 0, 0), Due.NONE);
        x.stay(0, 1);
        Due.due("meet(0, 0, 0)", x.meet(0, 0, 0), 100000);
        Due.due("meet(0, 0, 1)", x.meet(0, 0, 1), 0);
        x.undo();
        Due.due("meet(0, 0, 0) undone", x.meet(0, 0, 0), Due.NONE);
    }

    private static void keeping() {
        RoomsOfHours x = new RoomsOfHours();
        Due.due("back()", x.back(), Due.NO);
        Due.due("keep() of none", x.keep(), 1);
        x.stay(0, 1);
        x.take(0, 1);
        x.seen(0, 1, 1);
        Due.due("keep()", x.keep(), 2);
        Due.due("keep() behind two", x.keep(), Due.FULL);
        Due.due("count(6)", x.count(6), 2);
        x.undo();
        x.undo();
        x.stay(0, 9);
        Due.due("back()", x.back(), 1);
        Due.due("person(0, 1)", x.person(0, 1), 100012);
        Due.due("person(0, 3)", x.person(0, 3), 2);
        Due.due("count(4)", x.count(4), 2);
        Due.due("count(5): what was seen stays", x.count(5), 1);
        Due.due("undo() of one that was kept", x.undo(), 1);
        Due.due("back() to none", x.back(), 0);
        Due.due("count(4)", x.count(4), 0);
        Due.due("person(0, 1)", x.person(0, 1), 100000);
        Due.due("back()", x.back(), Due.NO);
        x.stay(0, 2);
        Due.due("keep() again", x.keep(), 1);
        x.undo();
        Due.due("back() again", x.back(), 0);
        Due.due("person(0, 1)", x.person(0, 1), 100024);
        x.stay(1, 5);
        x.take(1, 0);
        x.keep();
        x.undo();
        x.undo();
        x.undo();
        x.stay(1, 7);
        Due.due("back() of acts of two", x.back(), 0);
        Due.due("person(0, 1)", x.person(0, 1), 100024);
        Due.due("person(1, 1)", x.person(1, 1), 100030);
        Due.due("person(1, 3)", x.person(1, 3), 1);
    }

    private static void counting() {
        RoomsOfHours x = new RoomsOfHours();
        x.stay(0, 1);
        x.seen(0, 1, 1);
        x.seen(0, 1, 1);
        x.keep();
        x.write(65);
        int[] counts = {3, 3, 2, 2, 1, 2, 1, 1, 1};
        for (int what = 0; what < counts.length; what++) {
            Due.due("count(" + what + ")", x.count(what), counts[what]);
        }
        for (int bad : Due.WRONG) {
            Due.due("count(" + bad + ")", x.count(bad), Due.BAD);
        }
        Due.due("count(9)", x.count(9), Due.BAD);
    }
}
