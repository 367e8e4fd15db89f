/** Promises 18 to 23: ways by doors, and hours. */
public final class WaysTest {
    private static final String RING = "r1,1,0;r1,1,0;r1,1,0;d0,1,0,2;d1,2,1,9;d2,0,0,1;p0,0;p1,3;";

    public static void main(String[] args) {
        early();
        ring();
        even();
        round();
        roundDoneWithLastHour();
        roundPassedThrough();
        hour();
        agreed();
        Due.end();
    }

    private static void early() {
        RoomsOfHours x = Due.laid(RING);
        Due.due("early(0, 0, 0, 0)", x.early(0, 0, 0, 0), 100000);
        Due.due("early(0, 0, 0, 1)", x.early(0, 0, 0, 1), 0);
        Due.due("early(0, 0, 0, 2)", x.early(0, 0, 0, 2), Due.NONE);
        Due.due("early(0, 2, 0, 0)", x.early(0, 2, 0, 0), Due.NONE);
        Due.due("early(0, 2, 0, 2)", x.early(0, 2, 0, 2), Due.NONE);
        Due.due("early(0, 2, 1, 0)", x.early(0, 2, 1, 0), 100000);
        Due.due("early(0, 2, 1, 2)", x.early(0, 2, 1, 2), 2);
        Due.due("early(0, 2, 2, 0)", x.early(0, 2, 2, 0), 100000 + 24 - 84);
        Due.due("early(0, 2, 2, 1)", x.early(0, 2, 2, 1), 2);
        Due.due("early(0, 2, 2, 2)", x.early(0, 2, 2, 2), 0);
        Due.due("early(0, 0, 3, 0) round the ring", x.early(0, 0, 3, 0), 100000 + 36 - 72);
        Due.due("early(0, 0, 3, 1)", x.early(0, 0, 3, 1), 3);
        Due.due("early(0, 0, 8, 0) twice", x.early(0, 0, 8, 0), 100000 - 72);
        Due.due("early(0, 0, 8, 1) twice", x.early(0, 0, 8, 1), 6);
        // Two doors alike: the lowest is told; a longer way at the same tick is not.
        RoomsOfHours y = Due.laid("r1,1,0;r1,1,0;r1,1,0;d0,1,0,0;d0,2,0,2;d0,1,0,0;d1,2,0,0;p0,0;w0;");
        Due.due("early(0, 1, 8, 2)", y.early(0, 1, 8, 2), 0);
        Due.due("early(0, 2, 1, 0)", y.early(0, 2, 1, 0), 100024);
        Due.due("early(0, 2, 8, 0)", y.early(0, 2, 8, 0), 99952);
        RoomsOfHours z = Due.laid("r1,1,0;r1,1,0;d1,0,0,0;d0,1,0,0;p0,0;w0;");
        Due.due("early(0, 1, 8, 0)", z.early(0, 1, 8, 0), 100000);
        Due.due("early(0, 1, 8, 1)", z.early(0, 1, 8, 1), 1);
        Due.due("early(0, 1, 8, 2)", z.early(0, 1, 8, 2), 0);
        RoomsOfHours alike = Due.laid("r1,1,0;r1,1,0;r1,1,0;r1,1,0;d2,3,0,0;d1,3,0,0;d0,1,0,0;d0,2,0,0;p0,0;");
        Due.due("early(0, 3, 8, 1) by two ways alike", alike.early(0, 3, 8, 1), 2);
        Due.due("early(0, 3, 8, 2) by two ways alike", alike.early(0, 3, 8, 2), 2);
        z.stay(0, 2);
        Due.due("early(0, 1, 8, 0) from now on", z.early(0, 1, 8, 0), 100024);
        for (int bad : Due.WRONG) {
            Due.due("early(" + bad + ", 0, 0, 0)", x.early(bad, 0, 0, 0), Due.BAD);
            Due.due("early(0, " + bad + ", 0, 0)", x.early(0, bad, 0, 0), Due.BAD);
            Due.due("early(0, 0, " + bad + ", 0)", x.early(0, 0, bad, 0), Due.BAD);
            Due.due("early(0, 0, 0, " + bad + ")", x.early(0, 0, 0, bad), Due.BAD);
        }
        Due.due("early(0, 0, 9, 0)", x.early(0, 0, 9, 0), Due.BAD);
        Due.due("early(0, 3, 8, 0)", x.early(0, 3, 8, 0), Due.BAD);
        Due.due("early(0, 0, 8, 3)", x.early(0, 0, 8, 3), Due.BAD);
    }

    private static void ring() {
        RoomsOfHours x = Due.laid(RING);
        Due.due("ring(0)", x.ring(0), 3);
        Due.due("ring(1)", x.ring(1), 0);
        Due.due("ring(2)", x.ring(2), 36);
        for (int bad : Due.WRONG) {
            Due.due("ring(" + bad + ")", x.ring(bad), Due.BAD);
        }
        Due.due("ring(3)", x.ring(3), Due.BAD);
        RoomsOfHours level = Due.laid("r1,1,0;r1,1,0;d0,1,0,1;d0,1,1,1;p0,0;");
        Due.due("ring(0): back at the same tick is not lower", level.ring(0), Due.NONE);
        Due.due("ring(1)", level.ring(1), Due.NONE);
        Due.due("ring(2)", level.ring(2), Due.NONE);
        RoomsOfHours six = Due.laid("r1,1,0;r1,1,0;r1,1,0;r1,1,0;r1,1,0;r1,1,0;"
                + "d0,1,1,2;d1,2,1,1;d2,3,1,1;d3,4,1,1;d4,5,1,1;d5,0,1,1;p0,0;");
        Due.due("ring(0) by six rooms", six.ring(0), 6);
        Due.due("ring(2) by six rooms", six.ring(2), 12);
        RoomsOfHours far = Due.laid("r1,1,0;r1,1,0;r1,1,0;d1,2,1,5;d1,2,0,5;p0,0;");
        Due.due("ring(0) where nobody is", far.ring(0), 2);
        Due.due("ring(1) the lowest", far.ring(1), 1);
        Due.due("ring(2)", far.ring(2), 96);
    }

    private static void even() {
        Due.due("even() of an odd ring", Due.laid(RING).even(), 0);
        Due.due("even() of a ring", Due.laid("r4,1,0;r1,1,0;r1,4,0;d0,1,0,2;d1,2,1,9;d2,0,0,7;p0,0;w3;").even(), 1);
        Due.due("even() without doors", Due.laid("r1,1,0;p0,0;").even(), 1);
        Due.due("even() of a tree", Due.laid("r1,1,0;r1,1,0;r1,1,0;d0,1,0,2;d2,1,1,9;p0,0;").even(), 1);
        Due.due("even() of two doors alike", Due.laid("r1,1,0;r1,1,0;d0,1,0,2;d1,0,1,2;p0,0;").even(), 1);
        Due.due("even() of two unlike", Due.laid("r1,1,0;r1,1,0;d0,1,0,2;d1,0,0,2;p0,0;").even(), 0);
        Due.due("even() of a part apart",
                Due.laid("r1,1,0;r1,1,0;r1,1,0;r1,1,0;d0,1,0,2;d2,3,0,2;d3,2,0,2;p0,0;").even(), 0);
        Due.due("even() of a long path told backwards",
                Due.laid("r1,1,0;r1,1,0;r1,1,0;r1,1,0;r1,1,0;r1,1,0;d4,5,0,2;d3,4,0,2;d2,3,0,2;d1,2,0,2;d0,1,0,2;"
                        + "d5,0,1,10;p0,0;").even(), 1);
    }

    private static void round() {
        RoomsOfHours x = Due.laid("r1,1,0;r1,2,0;r2,1,0;d0,1,0,1;d0,2,0,0;p0,0;p1,0;");
        Due.due("round(0, 0, 0)", x.round(0, 0, 0), 100000);
        Due.due("round(0, 0, 1)", x.round(0, 0, 1), 0);
        Due.due("round(0, 1, 0)", x.round(0, 1, 0), 100012);
        Due.due("round(0, 1, 1)", x.round(0, 1, 1), 0);
        Due.due("round(0, 6, 0)", x.round(0, 6, 0), 100000 + 12 + 6 + 6 + 12 + 12 + 24);
        Due.due("round(0, 6, 1)", x.round(0, 6, 1), 3);
        Due.due("round(1, 7, 1)", x.round(1, 7, 1), 2);
        Due.due("round(1, 7, 0)", x.round(1, 7, 0), 100000 + 24 + 24 - 12 + 12 + 12 + 6);
        for (int bad : Due.WRONG) {
            Due.due("round(" + bad + ", 0, 0)", x.round(bad, 0, 0), Due.BAD);
            Due.due("round(0, " + bad + ", 0)", x.round(0, bad, 0), Due.BAD);
            Due.due("round(0, 0, " + bad + ")", x.round(0, 0, bad), Due.BAD);
        }
        Due.due("round(0, 8, 0)", x.round(0, 8, 0), Due.BAD);
        Due.due("round(0, 0, 2)", x.round(0, 0, 2), Due.BAD);
        RoomsOfHours apart = Due.laid("r1,1,0;r1,1,0;r1,1,0;d0,1,0,1;p0,0;");
        Due.due("round(0, 4, 0)", apart.round(0, 4, 0), Due.NONE);
        Due.due("round(0, 4, 1)", apart.round(0, 4, 1), Due.NONE);
        Due.due("round(0, 3, 1)", apart.round(0, 3, 1), 1);
        RoomsOfHours star = Due.laid(
                "r1,1,0;r1,1,0;r1,1,0;r1,1,0;r1,1,0;r1,1,0;d0,1,0,0;d0,2,0,0;d0,3,0,0;d0,4,0,0;d0,5,0,0;p0,0;w0;");
        Due.due("round(0, 63, 1)", star.round(0, 63, 1), 9);
        Due.due("round(0, 63, 0)", star.round(0, 63, 0), 100072);
    }

    /** A round is done when the last of its hours is over: doors behind that lead to no lower tick. */
    private static void roundDoneWithLastHour() {
        RoomsOfHours first = new RoomsOfHours();
        Due.due("round(0, 2, 0) at first", first.round(0, 2, 0), 100030);
        Due.due("round(0, 2, 1) at first", first.round(0, 2, 1), 1);
        RoomsOfHours x = Due.laid("r1,1,0;r1,1,0;d0,1,1,5;p0,0;w0;");
        Due.due("round(0, 1, 0)", x.round(0, 1, 0), 100012);
        Due.due("round(0, 1, 1)", x.round(0, 1, 1), 0);
        Due.due("round(0, 3, 0)", x.round(0, 3, 0), 100024 - 60);
        Due.due("round(0, 2, 0)", x.round(0, 2, 0), 100012 - 60);
        RoomsOfHours y = Due.laid("r1,1,0;r1,1,0;d0,1,1,5;d1,0,1,5;p0,0;w0;");
        Due.due("round(0, 0, 0): there is nothing to do", y.round(0, 0, 0), 100000);
        Due.due("round(0, 0, 1)", y.round(0, 0, 1), 0);
    }

    /** The last hour may be in a room that he was in before and left without one. */
    private static void roundPassedThrough() {
        RoomsOfHours x = Due.laid("r1,1,0;r1,1,0;d0,1,1,5;d1,0,1,5;p0,0;w0;");
        Due.due("round(0, 1, 0) by ten doors", x.round(0, 1, 0), 100012 - 600);
        Due.due("round(0, 1, 1) by none", x.round(0, 1, 1), 0);
        Due.due("round(0, 2, 0) by nine doors", x.round(0, 2, 0), 100012 - 540);
        Due.due("round(0, 3, 0) by ten doors", x.round(0, 3, 0), 100024 - 600);
        Due.due("round(0, 3, 1) by one", x.round(0, 3, 1), 1);
        RoomsOfHours y = Due.laid("r1,1,0;r1,1,0;r4,1,0;d0,1,0,3;d1,2,1,9;d2,0,0,1;p0,0;w0;");
        // Three ways round lead back by 5 hours each; he would be lower still in room 2, which is none of the set.
        Due.due("round(0, 3, 0) by nine doors", y.round(0, 3, 0), 100024 - 3 * 60);
        Due.due("round(0, 7, 0) by eight doors", y.round(0, 7, 0), 100027 - 2 * 60 - 72);
    }

    private static void hour() {
        RoomsOfHours x = Due.laid("r2,3,5;r1,1,0;d1,0,0,1;p0,50;p1,99;");
        // An hour of room 0 is 18 ticks.
        Due.due("hour(0, 0, 0)", x.hour(0, 0, 0), 100000);
        Due.due("hour(0, 23, 0)", x.hour(0, 23, 0), 100276);
        Due.due("hour(0, 5, 1)", x.hour(0, 5, 1), 100000);
        Due.due("hour(0, 6, 1)", x.hour(0, 6, 1), 100018);
        Due.due("hour(0, 4, 1)", x.hour(0, 4, 1), 100000 + 23 * 18);
        Due.due("hour(0, 2, 2)", x.hour(0, 2, 2), 100000);
        Due.due("hour(0, 1, 2)", x.hour(0, 1, 2), 100000 + 23 * 18);
        x.stay(0, 1);
        Due.due("hour(0, 1, 0): one and a half is not one", x.hour(0, 1, 0), 100012 + 288);
        Due.due("hour(0, 2, 0)", x.hour(0, 2, 0), 100024);
        Due.due("hour(0, 3, 2)", x.hour(0, 3, 2), 100018);
        x.go(1, 0);
        x.go(1, 0);
        // He came back at tick 30: 24 there, then 18 on, and 12 back.
        Due.due("hour(1, 2, 0)", x.hour(1, 2, 0), 100000 + 24 + 288);
        Due.due("hour(1, 5, 2)", x.hour(1, 5, 2), 100030);
        RoomsOfHours y = Due.laid("r1,1,7;r1,1,0;d0,1,1,24;p1,0;p0,0;w0;");
        y.go(1, 0);
        y.go(1, 0);
        y.stay(1, 1);
        y.go(1, 0);
        Due.due("hour(1, 23, 0) below 0", y.hour(1, 23, 0), 100000 - 12);
        Due.due("hour(1, 1, 0) below 0", y.hour(1, 1, 0), 100000 - 276);
        Due.due("hour(1, 0, 1) below 0", y.hour(1, 0, 1), 100000);
        for (int bad : Due.WRONG) {
            Due.due("hour(" + bad + ", 0, 0)", x.hour(bad, 0, 0), Due.BAD);
            Due.due("hour(0, " + bad + ", 0)", x.hour(0, bad, 0), Due.BAD);
            Due.due("hour(0, 0, " + bad + ")", x.hour(0, 0, bad), Due.BAD);
        }
        Due.due("hour(0, 24, 0)", x.hour(0, 24, 0), Due.BAD);
        Due.due("hour(0, 0, 3)", x.hour(0, 0, 3), Due.BAD);
    }

    private static void agreed() {
        RoomsOfHours x = Due.laid("r1,1,0;r4,3,0;p0,3;p1,3;p0,4;");
        Due.due("agreed(0, 1, 3)", x.agreed(0, 1, 3), 100000);
        // 12 and 9 ticks an hour: together at 12 n = 9 m, n and m alike modulo 24.
        Due.due("agreed(0, 1, 4)", x.agreed(0, 1, 4), Due.NONE);
        Due.due("agreed(0, 2, 3)", x.agreed(0, 2, 3), Due.NONE);
        Due.due("agreed(0, 0, 3)", x.agreed(0, 0, 3), Due.BAD);
        Due.due("agreed(0, 1, 24)", x.agreed(0, 1, 24), Due.BAD);
        for (int bad : Due.WRONG) {
            Due.due("agreed(" + bad + ", 0, 0)", x.agreed(bad, 0, 0), Due.BAD);
            Due.due("agreed(0, " + bad + ", 0)", x.agreed(0, bad, 0), Due.BAD);
            Due.due("agreed(0, 1, " + bad + ")", x.agreed(0, 1, bad), Due.BAD);
        }
        RoomsOfHours same = Due.laid("r1,4,0;p0,0;p0,0;");
        for (int n = 0; n < 8; n++) {
            same.stay(0, 24);
        }
        Due.due("agreed(0, 1, 0) at the later tick", same.agreed(0, 1, 0), 109216);
        Due.due("agreed(0, 1, 16)", same.agreed(0, 1, 16), 109984);
        Due.due("agreed(0, 1, 17) beyond 9999", same.agreed(0, 1, 17), Due.NONE);
        // 3 ticks an hour: 9999 is 3333 hours.
        RoomsOfHours last = Due.laid("r4,1,0;r1,4,0;d1,0,0,0;p0,0;p0,0;p1,0;w0;");
        for (int n = 0; n < 8; n++) {
            last.stay(2, 24);
        }
        last.go(2, 0);
        for (int n = 0; n < 10; n++) {
            last.stay(2, 24);
        }
        last.stay(2, 21);
        Due.due("person(2, 1)", last.person(2, 1), 109999);
        Due.due("agreed(2, 0, 21) at 9999", last.agreed(2, 0, 21), 109999);
        Due.due("agreed(2, 0, 22)", last.agreed(2, 0, 22), Due.NONE);
    }
}
