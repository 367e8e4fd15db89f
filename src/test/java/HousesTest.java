/** Promises 1 to 11: texts, and what is told of a house. */
public final class HousesTest {
    public static void main(String[] args) {
        newObject();
        writing();
        faults();
        most();
        laying();
        roomsAndClocks();
        doors();
        persons();
        things();
        worths();
        Due.end();
    }

    private static void newObject() {
        RoomsOfHours x = new RoomsOfHours();
        int[] counts = {3, 3, 2, 2, 0, 0, 0, 0, 1};
        for (int what = 0; what < counts.length; what++) {
            Due.due("count(" + what + ") at first", x.count(what), counts[what]);
        }
        int[][] rooms = {{1, 1, 0, 12}, {2, 1, 6, 6}, {1, 3, 12, 36}};
        int[][] doors = {{0, 1, 25}, {1, 2, 22}, {2, 0, 24}};
        int[][] persons = {{0, 100000, 20, 0, 1}, {1, 100000, 30, 0, 1}};
        int[][] things = {{1, 9, 1, Due.NONE, 100000, 0}, {2, 4, 0, Due.NONE, 100000, 0}};
        for (int n = 0; n < 3; n++) {
            for (int what = 0; what < 4; what++) {
                Due.due("room(" + n + ", " + what + ")", x.room(n, what), rooms[n][what]);
            }
            for (int what = 0; what < 3; what++) {
                Due.due("door(" + n + ", " + what + ")", x.door(n, what), doors[n][what]);
            }
        }
        for (int n = 0; n < 2; n++) {
            for (int what = 0; what < 5; what++) {
                Due.due("person(" + n + ", " + what + ")", x.person(n, what), persons[n][what]);
            }
            for (int what = 0; what < 6; what++) {
                Due.due("thing(" + n + ", " + what + ")", x.thing(n, what), things[n][what]);
            }
        }
        Due.due("fault() of an empty text", x.fault(), Due.NONE);
        Due.due("lay() of an empty text", x.lay(), Due.NO);
        Due.due("wipe() of an empty text", x.wipe(), 0);
    }

    private static void writing() {
        RoomsOfHours x = new RoomsOfHours();
        Due.due("write(31)", x.write(31), Due.BAD);
        Due.due("write(127)", x.write(127), Due.BAD);
        Due.due("write(-1)", x.write(-1), Due.BAD);
        Due.due("write(114 + 65536)", x.write(114 + 65536), Due.BAD);
        Due.due("count(7)", x.count(7), 0);
        Due.due("write(32)", x.write(32), 1);
        Due.due("write(126)", x.write(126), 2);
        for (int n = 3; n <= 200; n++) {
            Due.due("write(59)", x.write(59), n);
        }
        Due.due("write(59) behind 200", x.write(59), Due.FULL);
        Due.due("write(31) behind 200", x.write(31), Due.BAD);
        Due.due("count(7)", x.count(7), 200);
        Due.due("wipe()", x.wipe(), 200);
        Due.due("count(7)", x.count(7), 0);
        Due.due("write(65)", x.write(65), 1);
    }

    private static void fault(String text, int place) {
        Due.due("fault() of " + text, Due.faultOf(text), place);
    }

    private static void faults() {
        String two = "r1,1,0;r4,4,23;";
        fault(two, Due.NONE);
        fault("r01,01,00;", Due.NONE);
        fault("r001,1,0;", 0);
        fault("r1,1,023;", 0);
        fault("r1,1,0", 0);
        fault("r1,1,0,", 0);
        fault("r1,1;", 0);
        fault("r1,1,0,0;", 0);
        fault("r1,,0;", 0);
        fault("r,1,0;", 0);
        fault("r", 0);
        fault("r;", 0);
        fault(";", 0);
        fault(" r1,1,0;", 0);
        fault("r1, 1,0;", 0);
        fault("r-1,1,0;", 0);
        fault("R1,1,0;", 0);
        fault("x", 0);
        fault("r0,1,0;", 0);
        fault("r1,0,0;", 0);
        fault("r1,5,0;", 0);
        fault("r1,1,24;", 0);
        fault("r1,1,99;", 0);
        fault(two + ";", 15);
        fault(two + "x1;", 15);
        fault(two + "r1,1,0;r1,1", 22);
        fault(two + "d0,1,0,0;", Due.NONE);
        fault(two + "d1,0,1,24;", Due.NONE);
        fault(two + "d0,0,0,0;", 15);
        fault(two + "d0,2,0,0;", 15);
        fault(two + "d2,0,0,0;", 15);
        fault(two + "d0,1,2,0;", 15);
        fault(two + "d0,1,0,25;", 15);
        fault(two + "d0,1,0;", 15);
        fault("r1,1,0;d0,1,0,0;r1,1,0;", 7);
        fault(two + "p1,0;p0,99;p01,07;", Due.NONE);
        fault(two + "p2,0;", 15);
        fault(two + "p0;", 15);
        fault(two + "p0,100;", 15);
        fault("p0,0;", 0);
        fault(two + "t1,0,1;t0,3,99;", Due.NONE);
        fault(two + "t2,0,1;", 15);
        fault(two + "t0,4,1;", 15);
        fault(two + "t0,0,0;", 15);
        fault(two + "w0;w3;", Due.NONE);
        fault(two + "w4;", 15);
        fault(two + "w;", 15);
        fault(two + "w1,1;", 15);
        fault("w2;", Due.NONE);
    }

    private static void most() {
        String six = "r1,1,0;r1,1,0;r1,1,0;r1,1,0;r1,1,0;r1,1,0;";
        fault(six, Due.NONE);
        fault(six + "r1,1,0;", 42);
        String eight = "d0,1,0,0;d0,1,0,0;d0,1,0,0;d0,1,0,0;d0,1,0,0;d0,1,0,0;d0,1,0,0;d0,1,0,0;";
        fault(six + eight, Due.NONE);
        fault(six + eight + "d0,1,0,0;", 42 + 72);
        fault("r1,1,0;p0,0;p0,0;p0,0;p0,0;", Due.NONE);
        fault("r1,1,0;p0,0;p0,0;p0,0;p0,0;p0,0;", 27);
        fault("r1,1,0;t0,0,1;t0,0,1;t0,0,1;t0,0,1;t0,0,1;", Due.NONE);
        fault("r1,1,0;t0,0,1;t0,0,1;t0,0,1;t0,0,1;t0,0,1;t0,0,1;", 42);
    }

    private static void laying() {
        RoomsOfHours x = new RoomsOfHours();
        x.stay(0, 1);
        x.keep();
        x.seen(0, 1, 1);
        Due.type(x, "r1,1,0;");
        Due.due("lay() without a person", x.lay(), Due.NO);
        Due.due("count(0) after NO", x.count(0), 3);
        Due.due("count(4) after NO", x.count(4), 1);
        Due.type(x, "p0,5;q");
        Due.due("lay() of a fault", x.lay(), Due.NO);
        Due.due("fault() changes no house", x.fault(), 12);
        Due.due("count(2) after NO", x.count(2), 2);
        Due.due("person(0, 1) after NO", x.person(0, 1), 100012);
        x.wipe();
        Due.type(x, "r1,1,0;p0,5;w0;w3;");
        Due.due("lay()", x.lay(), 1);
        int[] counts = {1, 0, 1, 0, 0, 0, 0, 18, 3};
        for (int what = 0; what < counts.length; what++) {
            Due.due("count(" + what + ") when laid", x.count(what), counts[what]);
        }
        Due.due("person(0, 1) when laid", x.person(0, 1), 100000);
        Due.due("undo() when laid", x.undo(), Due.NO);
        Due.due("back() when laid", x.back(), Due.NO);
        x.stay(0, 3);
        Due.due("lay() again", x.lay(), 1);
        Due.due("person(0, 2) when laid again", x.person(0, 2), 5);
        x.wipe();
        Due.due("a house stays when its text is wiped", x.count(8), 3);
        Due.type(x, "r1,1,0;p0,5;");
        x.lay();
        Due.due("W without w", x.count(8), 1);
    }

    private static void roomsAndClocks() {
        for (int p = 1; p <= 4; p++) {
            for (int q = 1; q <= 4; q++) {
                RoomsOfHours x = Due.laid("r" + p + "," + q + ",23;p0,0;");
                Due.due("room(0, 3) of " + p + " by " + q, x.room(0, 3), 12 * q / p);
                for (int t = -9999; t <= 9999; t += 1111) {
                    int below = 12 * q;
                    int above = ((23 * below + t * p) % (24 * below) + 24 * below) % (24 * below);
                    int common = java.math.BigInteger.valueOf(above).gcd(java.math.BigInteger.valueOf(below)).intValue();
                    Due.due("clock(0, " + t + ", 0)", x.clock(0, t, 0), above / common);
                    Due.due("clock(0, " + t + ", 1)", x.clock(0, t, 1), below / common);
                }
            }
        }
        RoomsOfHours x = new RoomsOfHours();
        Due.due("clock(0, 0, 0)", x.clock(0, 0, 0), 0);
        Due.due("clock(0, 0, 1)", x.clock(0, 0, 1), 1);
        Due.due("clock(0, 288, 0)", x.clock(0, 288, 0), 0);
        Due.due("clock(0, -1, 0)", x.clock(0, -1, 0), 287);
        Due.due("clock(0, -1, 1)", x.clock(0, -1, 1), 12);
        for (int bad : new int[] {-1, 4, 3, Integer.MIN_VALUE, Integer.MAX_VALUE}) {
            if (bad != 3) {
                Due.due("room(0, " + bad + ")", x.room(0, bad), Due.BAD);
            }
            Due.due("room(" + bad + ", 0)", x.room(bad, 0), Due.BAD);
            Due.due("clock(" + bad + ", 0, 0)", x.clock(bad, 0, 0), Due.BAD);
            Due.due("clock(0, 0, " + bad + ")", x.clock(0, 0, bad), Due.BAD);
        }
        Due.due("clock(0, 0, 2)", x.clock(0, 0, 2), Due.BAD);
        Due.due("clock(0, 10000, 0)", x.clock(0, 10000, 0), Due.BAD);
        Due.due("clock(0, -10000, 0)", x.clock(0, -10000, 0), Due.BAD);
    }

    private static void doors() {
        RoomsOfHours x = Due.laid("r1,1,0;r1,1,0;d1,0,1,24;d0,1,0,24;p0,0;");
        Due.due("door(0, 0)", x.door(0, 0), 1);
        Due.due("door(0, 1)", x.door(0, 1), 0);
        Due.due("door(0, 2)", x.door(0, 2), 0);
        Due.due("door(1, 2)", x.door(1, 2), 48);
        Due.due("door(2, 0)", x.door(2, 0), Due.BAD);
        Due.due("door(-1, 0)", x.door(-1, 0), Due.BAD);
        Due.due("door(0, 3)", x.door(0, 3), Due.BAD);
        Due.due("door(0, -1)", x.door(0, -1), Due.BAD);
    }

    private static void persons() {
        RoomsOfHours x = new RoomsOfHours();
        Due.due("person(2, 0)", x.person(2, 0), Due.BAD);
        Due.due("person(-1, 0)", x.person(-1, 0), Due.BAD);
        Due.due("person(0, 5)", x.person(0, 5), Due.BAD);
        Due.due("person(0, -1)", x.person(0, -1), Due.BAD);
        x.take(0, 1);
        Due.due("person(0, 3)", x.person(0, 3), 2);
        x.go(0, 0);
        x.take(0, 0);
        Due.due("person(0, 3)", x.person(0, 3), 3);
        Due.due("person(0, 4)", x.person(0, 4), 2);
        Due.due("person(1, 4)", x.person(1, 4), 1);
        RoomsOfHours y = Due.laid("r1,1,0;r1,1,0;d0,1,1,24;p0,1;w0;");
        y.go(0, 0);
        Due.due("person(0, 1) below 0", y.person(0, 1), 99712);
        Due.due("person(0, 2) by W 0", y.person(0, 2), 1);
    }

    private static void things() {
        RoomsOfHours x = Due.laid("r1,1,0;r3,4,0;d0,1,1,1;p0,0;t0,3,9;t1,0,99;");
        Due.due("thing(0, 0)", x.thing(0, 0), 3);
        Due.due("thing(1, 1)", x.thing(1, 1), 99);
        Due.due("thing(2, 0)", x.thing(2, 0), Due.BAD);
        Due.due("thing(-1, 0)", x.thing(-1, 0), Due.BAD);
        Due.due("thing(0, 6)", x.thing(0, 6), Due.BAD);
        Due.due("thing(0, -1)", x.thing(0, -1), Due.BAD);
        x.go(0, 0);
        x.stay(0, 3);
        x.take(0, 1);
        Due.due("thing(1, 2) that is had", x.thing(1, 2), Due.NONE);
        Due.due("thing(1, 3) that is had", x.thing(1, 3), 0);
        Due.due("thing(1, 4) that is had", x.thing(1, 4), Due.NONE);
        Due.due("thing(1, 5) that is had", x.thing(1, 5), 3);
        x.stay(0, 2);
        Due.due("thing(1, 5) by his hours", x.thing(1, 5), 5);
        x.put(0, 1);
        Due.due("thing(1, 2) put", x.thing(1, 2), 1);
        Due.due("thing(1, 3) put", x.thing(1, 3), Due.NONE);
        Due.due("thing(1, 4) put", x.thing(1, 4), 100080);
        x.stay(0, 4);
        Due.due("thing(1, 5) is as it was then", x.thing(1, 5), 5);
    }

    private static void worths() {
        RoomsOfHours x = Due.laid("r2,3,0;p0,0;t0,0,7;t0,1,3;t0,2,2;t0,3,2;");
        // An hour there is 18 ticks.
        int[] ticks = {0, 17, 18, 35, 36, 53, 54, 9999};
        int[][] due = {
            {7, 7, 7, 7, 7, 7, 7, 7}, {3, 3, 2, 2, 1, 1, 0, 0}, {0, 0, 0, 0, 1, 1, 1, 1}, {1, 1, 1, 1, 0, 0, 0, 0}};
        for (int t = 0; t < 4; t++) {
            for (int n = 0; n < ticks.length; n++) {
                Due.due("worth(" + t + ", " + ticks[n] + ")", x.worth(t, ticks[n]), due[t][n]);
            }
        }
        Due.due("worth(0, -1)", x.worth(0, -1), Due.NO);
        Due.due("worth(0, -9999)", x.worth(0, -9999), Due.NO);
        Due.due("worth(0, -10000)", x.worth(0, -10000), Due.BAD);
        Due.due("worth(0, 10000)", x.worth(0, 10000), Due.BAD);
        Due.due("worth(4, 0)", x.worth(4, 0), Due.BAD);
        Due.due("worth(-1, 0)", x.worth(-1, 0), Due.BAD);
        x.take(0, 0);
        Due.due("worth(0, 0) that is had", x.worth(0, 0), Due.NO);
        Due.due("worth(0, 10000) that is had", x.worth(0, 10000), Due.BAD);
    }
}
