/** Promises 18 to 23: a test of its own for each boundary of ways, rounds and hours. */
public final class WayEdgesTest {
    private static final String LINE = "r1,1,0;r1,1,0;r1,1,0;r1,1,0;r1,1,0;r1,1,0;d0,1,0,0;d1,2,0,0;d2,3,0,0;d3,4,0,0;d4,5,0,0;";
    /** Each door leads 5 hours back, the way there by door 0 and the way back by door 1. */
    private static final String EVER_BACK = "r1,1,0;r1,1,0;d0,1,1,5;d1,0,1,5;p0,0;w0;";

    public static void main(String[] args) {
        earlyEdges();
        earlyDoorsAtMost();
        earlyNowToo();
        earlyFewestDoors();
        earlyLowestFirst();
        earlyFromNowOn();
        earlyNone();
        allEightDoors();
        ringEdges();
        ringLower();
        ringDoors();
        ringLowestRoom();
        ringAtTheMost();
        ringNone();
        evenEdges();
        evenByTwoDoors();
        roundEdges();
        roundEmptySet();
        roundAllRooms();
        roundAnHourOnce();
        roundDoorsAtMost();
        roundFewestDoors();
        roundDoneAtTheLastHour();
        roundNone();
        hourEdges();
        hourOwnTickOrAbove();
        hourByHall();
        hourByRoom();
        hourByHimself();
        agreedEdges();
        agreedOwnTicks();
        agreedLast();
        agreedNone();
        agreedBelowZero();
        Due.end();
    }

    private static void early(RoomsOfHours x, int r, int n, int tick, int doors, int first) {
        Due.due("early(0, " + r + ", " + n + ", 0)", x.early(0, r, n, 0), tick);
        Due.due("early(0, " + r + ", " + n + ", 1)", x.early(0, r, n, 1), doors);
        Due.due("early(0, " + r + ", " + n + ", 2)", x.early(0, r, n, 2), first);
    }

    private static void earlyEdges() {
        Due.sentence("early: such PERSONS and ROOMS as there are; n DOORS (0 to 8); what 0 to 2");
        RoomsOfHours x = new RoomsOfHours();
        Due.range("early(i, 0, 8, 0)", 0, 1, i -> x.early(i, 0, 8, 0));
        Due.range("early(0, r, 8, 0)", 0, 2, r -> x.early(0, r, 8, 0));
        Due.range("early(0, 0, n, 0)", 0, 8, n -> x.early(0, 0, n, 0));
        Due.range("early(0, 1, 8, what)", 0, 2, what -> x.early(0, 1, 8, what));
        Due.sentence("early: BAD ahead of NONE");
        RoomsOfHours apart = Due.laid("r1,1,0;r1,1,0;p0,0;");
        Due.due("early(0, 1, 8, 0)", apart.early(0, 1, 8, 0), Due.NONE);
        Due.due("early(0, 1, 9, 0)", apart.early(0, 1, 9, 0), Due.BAD);
        Due.due("early(0, 1, 8, 3)", apart.early(0, 1, 8, 3), Due.BAD);
    }

    private static void earlyDoorsAtMost() {
        Due.sentence("EARLY by n DOORS at most");
        RoomsOfHours x = Due.laid(LINE + "p0,0;");
        for (int r = 1; r < 6; r++) {
            early(x, r, r - 1, Due.NONE, Due.NONE, Due.NONE);
            early(x, r, r, 100000 + 12 * r, r, 0);
            early(x, r, 8, 100000 + 12 * r, r, 0);
        }
        RoomsOfHours y = Due.laid(EVER_BACK);
        for (int n = 0; n <= 8; n++) {
            int even = n / 2 * 2;
            early(y, 0, n, 100000 - 60 * even, even, even == 0 ? Due.NONE : 0);
            int odd = (n + 1) / 2 * 2 - 1;
            early(y, 1, n, odd < 0 ? Due.NONE : 100000 - 60 * odd, odd < 0 ? Due.NONE : odd, odd < 0 ? Due.NONE : 0);
        }
    }

    private static void earlyNowToo() {
        Due.sentence("(he is there: now, too); the first: NONE, if none has to be");
        RoomsOfHours x = Due.laid(LINE + "p2,0;");
        x.stay(0, 1);
        early(x, 2, 0, 100012, 0, Due.NONE);
        early(x, 2, 8, 100012, 0, Due.NONE);
        early(x, 1, 0, Due.NONE, Due.NONE, Due.NONE);
        early(x, 3, 0, Due.NONE, Due.NONE, Due.NONE);
        // Back at the same tick by two doors: none has to be.
        RoomsOfHours same = Due.laid("r1,1,0;r1,1,0;d0,1,0,0;p0,0;w0;");
        early(same, 0, 8, 100000, 0, Due.NONE);
    }

    private static void earlyFewestDoors() {
        Due.sentence("by how many DOORS at the fewest he can at that TICK");
        // To room 2 at TICK 24 by one door, and by two.
        RoomsOfHours same = Due.laid("r1,1,0;r1,1,0;r1,1,0;d0,1,0,0;d1,2,0,0;d0,2,0,1;p0,0;");
        early(same, 2, 8, 100024, 1, 2);
        // Sooner by two: 3 and 8 ticks, against 3 and 12.
        RoomsOfHours sooner = Due.laid("r4,1,0;r3,2,0;r1,1,0;d0,1,0,0;d1,2,0,0;d0,2,0,1;p0,0;");
        early(sooner, 2, 1, 100015, 1, 2);
        early(sooner, 2, 2, 100011, 2, 0);
        // Later by two: 3 and 16 ticks, against 3 and 12.
        RoomsOfHours later = Due.laid("r4,1,0;r3,4,0;r1,1,0;d0,1,0,0;d1,2,0,0;d0,2,0,1;p0,0;");
        early(later, 2, 8, 100015, 1, 2);
    }

    private static void earlyLowestFirst() {
        Due.sentence("the lowest DOOR that can be the first of a way by so few");
        RoomsOfHours two = Due.laid("r1,1,0;r1,1,0;d1,0,0,0;d0,1,0,0;d0,1,1,0;p0,0;");
        early(two, 1, 8, 100012, 1, 0);
        // By doors 3 and 0, or by 1 and 2; door 4 leads there later.
        RoomsOfHours ways = Due.laid("r1,1,0;r1,1,0;r1,1,0;r1,1,0;d2,3,0,0;d0,1,0,0;d1,3,0,0;d0,2,0,0;d0,3,0,9;p0,0;");
        early(ways, 3, 2, 100024, 2, 1);
        early(ways, 3, 1, 100120, 1, 4);
        // Door 0 begins a way to that tick by three doors, but not by two.
        RoomsOfHours longer = Due.laid(
                "r1,1,0;r1,1,0;r1,1,0;r1,1,0;d0,1,0,0;d1,2,0,0;d2,3,0,0;d0,2,0,0;p0,0;w0;");
        early(longer, 3, 8, 100000, 2, 3);
        // Door 0 leads into the same rooms, but later.
        RoomsOfHours worse = Due.laid("r1,1,0;r1,1,0;r1,1,0;d0,1,0,1;d1,2,0,0;d0,1,0,0;p0,0;");
        early(worse, 2, 8, 100024, 2, 2);
    }

    private static void earlyFromNowOn() {
        Due.sentence("From now on, by DOORS alone, none staying; TICKS below 0 are 100000 more");
        RoomsOfHours x = Due.laid(EVER_BACK);
        x.stay(0, 1);
        early(x, 1, 1, 100012 - 60, 1, 0);
        x.go(0, 0);
        early(x, 1, 0, 100012 - 60, 0, Due.NONE);
        early(x, 0, 1, 100012 - 120, 1, 1);
        early(x, 1, 8, 100012 - 60 - 480, 8, 1);
        Due.due("count(4): none of it is done", x.count(4), 2);
        Due.due("person(0, 0)", x.person(0, 0), 1);
    }

    private static void earlyNone() {
        Due.sentence("early: NONE");
        RoomsOfHours x = Due.laid("r1,1,0;r1,1,0;r1,1,0;d0,1,0,0;p2,0;p0,0;");
        early(x, 0, 8, Due.NONE, Due.NONE, Due.NONE);
        early(x, 1, 8, Due.NONE, Due.NONE, Due.NONE);
        early(x, 2, 8, 100000, 0, Due.NONE);
        Due.due("early(1, 2, 8, 0)", x.early(1, 2, 8, 0), Due.NONE);
        // Where he cannot come, however far the doors there lead back.
        RoomsOfHours back = Due.laid("r1,1,0;r1,1,0;r1,1,0;d1,2,1,24;d2,1,1,24;p0,0;w0;");
        early(back, 0, 8, 100000, 0, Due.NONE);
        early(back, 1, 8, Due.NONE, Due.NONE, Due.NONE);
        early(back, 2, 8, Due.NONE, Due.NONE, Due.NONE);
    }

    private static void allEightDoors() {
        Due.sentence("DOORS: 8 at most, all of which lead somewhere");
        RoomsOfHours x = Due.laid("r1,1,0;".repeat(6) + "d0,1,0,0;d1,2,0,0;d2,3,0,0;d3,4,0,0;d0,4,0,9;d0,4,0,8;d0,4,0,7;d4,5,0,1;p0,0;");
        early(x, 5, 2, 100000 + 12 + 84 + 12 + 12, 2, 6);
        early(x, 5, 5, 100000 + 5 * 12 + 12, 5, 0);
        // Five doors round, by which he comes back 4 hours sooner, and five there.
        round(x, 32, 100000 - 48 + 5 * 12 + 12 + 12, 2);
        Due.due("ring(0)", x.ring(0), 5);
        Due.due("even()", x.even(), 0);
        RoomsOfHours last = Due.laid("r1,1,0;r1,1,0;" + "d0,1,0,2;".repeat(7) + "d0,1,0,1;p0,0;w0;");
        early(last, 1, 1, 100012, 1, 7);
        Due.due("ring(2)", last.ring(2), 12);
        Due.due("even()", last.even(), 0);
        Due.sentence("DOORS of the house before are none");
        last.wipe();
        Due.type(last, "r1,1,0;r1,1,0;d0,1,0,2;p0,0;");
        last.lay();
        last.wipe();
        Due.type(last, "r1,1,0;r1,1,0;p0,0;");
        last.lay();
        early(last, 1, 8, Due.NONE, Due.NONE, Due.NONE);
        Due.due("ring(0)", last.ring(0), Due.NONE);
        Due.due("even()", last.even(), 1);
        round(last, 2, Due.NONE, Due.NONE);
    }

    // ---- ring and even

    private static void ring(String text, int doors, int room, int lower) {
        RoomsOfHours x = Due.laid(text);
        Due.due("ring(0) of " + text, x.ring(0), doors);
        Due.due("ring(1) of " + text, x.ring(1), room);
        Due.due("ring(2) of " + text, x.ring(2), lower);
    }

    private static void ringEdges() {
        Due.sentence("ring: what 0 to 2");
        RoomsOfHours x = Due.laid(EVER_BACK);
        Due.range("ring(what)", 0, 2, what -> x.ring(what));
        Due.sentence("ring: BAD ahead of NONE");
        RoomsOfHours none = Due.laid("r1,1,0;p0,0;");
        Due.due("ring(0)", none.ring(0), Due.NONE);
        Due.due("ring(3)", none.ring(3), Due.BAD);
        Due.due("ring(-1)", none.ring(-1), Due.BAD);
    }

    private static void ringLower() {
        Due.sentence("into it at a lower TICK than one's own when one set out; TICKS lower (as they are)");
        // An hour back by the doors; 11, 12 and 13 ticks of hours.
        ring("r4,1,0;r3,2,0;d0,1,0,0;d0,1,0,1;p0,0;", 2, 0, 1);
        ring("r4,1,0;r4,3,0;d0,1,0,0;d0,1,0,1;p0,0;", Due.NONE, Due.NONE, Due.NONE);
        ring("r3,1,0;r4,3,0;d0,1,0,0;d0,1,0,1;p0,0;", Due.NONE, Due.NONE, Due.NONE);
        ring("r1,1,0;r1,1,0;d0,1,0,24;d0,1,1,24;p0,0;w0;", 2, 0, 576);
    }

    /** A way round through the first rooms, which leads back by half an hour for each door. */
    private static String roundTrip(int rooms) {
        StringBuilder text = new StringBuilder("r2,1,0;".repeat(rooms));
        for (int r = 0; r < rooms; r++) {
            text.append("d").append(r).append(",").append((r + 1) % rooms).append(",1,1;");
        }
        return text + "p0,0;";
    }

    private static void ringDoors() {
        Due.sentence("BACK: the fewest DOORS (2 to 8)");
        ring(EVER_BACK, 2, 0, 120);
        for (int rooms = 3; rooms <= 6; rooms++) {
            ring(roundTrip(rooms), rooms, 0, 6 * rooms);
        }
        // A way round of three doors leads back further than that of two.
        ring("r1,1,0;r1,1,0;r1,1,0;d0,1,1,24;d1,2,1,24;d2,0,1,24;d1,2,1,22;p0,0;w0;", 2, 1, 24);
    }

    private static void ringLowestRoom() {
        Due.sentence("from some ROOM; the lowest such ROOM");
        ring("r1,1,0;r1,1,0;r1,1,0;d2,1,1,5;d1,2,1,5;p0,0;w0;", 2, 1, 120);
        ring("r1,1,0;r1,1,0;r1,1,0;r1,1,0;d2,3,1,5;d3,2,1,5;d0,1,1,1;d1,0,1,1;p0,0;w0;", 2, 0, 24);
        ring("r1,1,0;r1,1,0;r1,1,0;r1,1,0;r1,1,0;r1,1,0;d5,4,1,5;d4,5,1,5;p0,0;w0;", 2, 4, 120);
        // By two doors from room 4 alone, by three from room 0.
        ring("r1,1,0;r1,1,0;r1,1,0;r1,1,0;r1,1,0;d0,1,1,5;d1,2,1,5;d2,0,1,5;d3,4,1,1;d4,3,1,1;p0,0;w0;", 2, 3, 24);
    }

    private static void ringAtTheMost() {
        Due.sentence("how many TICKS lower at the most by so many DOORS from it");
        ring("r1,1,0;r1,1,0;d0,1,1,1;d0,1,1,7;d0,1,0,2;p0,0;w0;", 2, 0, 108);
        ring("r1,1,0;r1,1,0;r1,1,0;d0,1,1,1;d0,1,0,0;d0,2,1,9;d0,2,0,0;p0,0;w0;", 2, 0, 108);
        ring("r1,1,0;r1,1,0;r1,1,0;d0,1,1,1;d0,1,0,0;d1,2,1,9;d1,2,0,0;p0,0;w0;", 2, 0, 12);
    }

    private static void ringNone() {
        Due.sentence("BACK: none");
        ring("r1,1,0;p0,0;", Due.NONE, Due.NONE, Due.NONE);
        ring("r1,1,0;r1,1,0;d0,1,1,24;p0,0;w0;", Due.NONE, Due.NONE, Due.NONE);
        ring("r1,1,0;r1,1,0;d0,1,1,24;d0,1,1,24;p0,0;w0;", Due.NONE, Due.NONE, Due.NONE);
    }

    private static void even(String text, int due) {
        Due.due("even() of " + text, Due.laid(text).even(), due);
    }

    private static void evenEdges() {
        Due.sentence("EVEN: 1 (also without DOORS)");
        even("r1,1,0;p0,0;", 1);
        even("r1,1,0;r1,1,0;p0,0;", 1);
        Due.sentence("EVEN: whether all ways from each ROOM back to it come to 0");
        even("r1,1,0;r1,1,0;d0,1,0,24;p0,0;", 1);
        even("r1,1,0;r1,1,0;d0,1,0,1;d0,1,0,1;p0,0;", 1);
        even("r1,1,0;r1,1,0;d1,0,0,1;d1,0,0,1;p0,0;", 1);
        even("r1,1,0;r1,1,0;d1,0,0,1;d1,0,0,2;p0,0;", 0);
        even("r1,1,0;r1,1,0;r1,1,0;d1,2,0,5;d0,1,0,0;d0,2,0,0;p0,0;", 0);
        even("r1,1,0;r1,1,0;r1,1,0;d1,2,0,5;d0,1,0,0;d0,2,0,5;p0,0;", 1);
        even("r1,1,0;r1,1,0;d0,1,0,1;d0,1,0,2;p0,0;", 0);
        even("r1,1,0;r1,1,0;d0,1,0,1;d1,0,1,1;p0,0;", 1);
        even("r1,1,0;r1,1,0;d0,1,0,1;d1,0,0,1;p0,0;", 0);
        even("r1,1,0;r1,1,0;d0,1,0,0;d0,1,1,0;p0,0;", 1);
        even("r1,1,0;r1,1,0;r1,1,0;d0,1,0,12;d1,2,0,12;d2,0,1,24;p0,0;", 1);
        even("r1,1,0;r1,1,0;r1,1,0;d0,1,0,12;d1,2,0,12;d2,0,1,23;p0,0;", 0);
        even("r1,1,0;r1,1,0;r1,1,0;d1,0,1,12;d2,1,1,12;d0,2,0,24;p0,0;", 1);
        // Two ways round together: the one is even, the other not.
        even("r1,1,0;r1,1,0;r1,1,0;r1,1,0;d0,1,0,1;d1,0,1,1;d2,3,0,1;d3,2,1,2;p0,0;", 0);
        even("r1,1,0;r1,1,0;r1,1,0;r1,1,0;d2,3,0,1;d3,2,1,1;d0,1,0,1;d1,0,1,2;p0,0;", 0);
        even("r1,1,0;r1,1,0;r1,1,0;r1,1,0;d2,3,0,1;d3,2,1,1;d0,1,0,1;d1,0,1,1;d1,2,0,7;p0,0;", 1);
        even("r1,1,0;r1,1,0;r1,1,0;r1,1,0;r1,1,0;r1,1,0;d5,4,0,1;d4,3,0,1;d3,2,0,1;d2,1,0,1;d1,0,0,1;d0,5,1,5;p0,0;", 1);
        even("r1,1,0;r1,1,0;r1,1,0;r1,1,0;r1,1,0;r1,1,0;d5,4,0,1;d4,3,0,1;d3,2,0,1;d2,1,0,1;d1,0,0,1;d0,5,1,4;p0,0;", 0);
        Due.sentence("EVEN: hours of DOORS alone being counted");
        even("r1,4,0;r4,1,0;d0,1,0,3;d0,1,0,3;p0,0;w3;", 1);
        even("r4,1,0;r4,3,0;d0,1,0,0;d0,1,0,1;p0,0;", 0);
    }

    /** Two doors lead round just if they are between the same two rooms. */
    private static void evenByTwoDoors() {
        Due.sentence("EVEN: a way back that is the way there comes to 0");
        for (int n = 0; n < 4 * 4 * 4 * 4; n++) {
            int a = n & 3;
            int b = n >> 2 & 3;
            int c = n >> 4 & 3;
            int d = n >> 6 & 3;
            if (a == b || c == d) {
                continue;
            }
            String rooms = "r1,1,0;r1,1,0;r1,1,0;r1,1,0;";
            String doors = "d" + a + "," + b + ",0,1;d" + c + "," + d + ",0,2;p0,0;";
            boolean round = (a == c && b == d) || (a == d && b == c);
            even(rooms + doors, round ? 0 : 1);
            String alike = "d" + a + "," + b + ",0,2;d" + c + "," + d + ",0,2;p0,0;";
            even(rooms + alike, a == d && b == c ? 0 : 1);
        }
    }

    // ---- round

    private static void round(RoomsOfHours x, int set, int tick, int doors) {
        Due.due("round(0, " + set + ", 0)", x.round(0, set, 0), tick);
        Due.due("round(0, " + set + ", 1)", x.round(0, set, 1), doors);
    }

    private static void roundEdges() {
        Due.sentence("round: such PERSONS as there are; set 0 to all ROOMS; what 0, 1");
        RoomsOfHours x = new RoomsOfHours();
        Due.range("round(i, 0, 0)", 0, 1, i -> x.round(i, 0, 0));
        Due.range("round(0, set, 0) of three", 0, 7, set -> x.round(0, set, 0));
        Due.range("round(0, 0, what)", 0, 1, what -> x.round(0, 0, what));
        RoomsOfHours one = Due.laid("r1,1,0;p0,0;");
        Due.range("round(0, set, 1) of one", 0, 1, set -> one.round(0, set, 1));
        RoomsOfHours six = Due.laid(LINE + "p0,0;");
        Due.range("round(0, set, 0) of six", 0, 63, set -> six.round(0, set, 0));
        Due.sentence("round: BAD ahead of NONE");
        RoomsOfHours apart = Due.laid("r1,1,0;r1,1,0;p0,0;");
        Due.due("round(0, 2, 0)", apart.round(0, 2, 0), Due.NONE);
        Due.due("round(0, 2, 2)", apart.round(0, 2, 2), Due.BAD);
        Due.due("round(0, 4, 0)", apart.round(0, 4, 0), Due.BAD);
        Due.due("round(1, 2, 0)", apart.round(1, 2, 0), Due.BAD);
    }

    private static void roundEmptySet() {
        Due.sentence("ROUND of no ROOMS is done now, by no DOORS");
        RoomsOfHours x = Due.laid(EVER_BACK);
        round(x, 0, 100000, 0);
        x.go(0, 0);
        x.stay(0, 1);
        round(x, 0, 100012 - 60, 0);
    }

    private static void roundAllRooms() {
        Due.sentence("ROUND by a set of ROOMS (bits), all of them too");
        RoomsOfHours x = Due.laid(LINE + "p0,0;");
        for (int r = 0; r < 6; r++) {
            round(x, 1 << r, 100012 + 12 * r, r);
        }
        round(x, 63, 100000 + 6 * 12 + 5 * 12, 5);
        round(x, 33, 100000 + 2 * 12 + 5 * 12, 5);
        RoomsOfHours middle = Due.laid(LINE + "p2,0;");
        round(middle, 63, 100000 + 6 * 12 + 7 * 12, 7);
        round(middle, 3, 100000 + 2 * 12 + 2 * 12, 2);
    }

    private static void roundAnHourOnce() {
        Due.sentence("to have stayed for an hour of the ROOM once in each of them (also in that where he is)");
        RoomsOfHours one = Due.laid("r1,4,0;p0,0;");
        round(one, 1, 100048, 0);
        RoomsOfHours x = Due.laid("r1,4,0;r4,1,0;d0,1,0,0;p0,0;w0;");
        round(x, 1, 100048, 0);
        round(x, 2, 100003, 1);
        round(x, 3, 100051, 1);
        Due.due("count(4): none of it is done", x.count(4), 0);
    }

    private static void roundDoorsAtMost() {
        Due.sentence("ROUND by 10 DOORS at most");
        RoomsOfHours x = Due.laid(EVER_BACK);
        // Each door is 5 hours sooner; in room 0 he can be by ten doors, in room 1 by nine.
        round(x, 1, 100012 - 600, 0);
        round(x, 2, 100012 - 540, 1);
        round(x, 3, 100024 - 600, 1);
        // The most that a house can need: five rooms around his own.
        RoomsOfHours star = Due.laid(
                "r1,1,0;r1,1,0;r1,1,0;r1,1,0;r1,1,0;r1,1,0;d0,1,0,0;d0,2,0,0;d0,3,0,0;d0,4,0,0;d0,5,0,0;p0,0;");
        round(star, 63, 100000 + 6 * 12 + 9 * 12, 9);
        round(star, 62, 100000 + 5 * 12 + 9 * 12, 9);
    }

    private static void roundFewestDoors() {
        Due.sentence("the fewest DOORS by which it can be");
        // By one door at 24 + 12, by two at 12 + 12 + 12 less 24.
        RoomsOfHours x = Due.laid("r1,1,0;r1,1,0;r1,1,0;d0,2,0,1;d0,1,0,0;d1,2,1,2;p0,0;");
        round(x, 4, 100012, 1);
        round(x, 6, 100024, 2);
        RoomsOfHours y = Due.laid("r1,1,0;r1,1,0;d0,1,0,1;d0,1,0,2;p0,0;");
        round(y, 2, 100036, 1);
        // By two doors, the hour of room 0 last, at a lower tick than by one.
        round(y, 3, 100036, 1);
    }

    private static void roundDoneAtTheLastHour() {
        Due.sentence("the lowest TICK at which that can be done");
        // Door 0 leads back: further doors lead to lower ticks, but all is done before.
        RoomsOfHours x = Due.laid("r1,1,0;r1,1,0;d0,1,1,5;p0,0;w0;");
        round(x, 1, 100012, 0);
        round(x, 2, 100012 - 60, 1);
        round(x, 3, 100024 - 60, 1);
        RoomsOfHours y = Due.laid("r1,1,0;r1,1,0;d0,1,0,5;p0,0;w0;");
        // From room 1 back into room 0: its hour is the last.
        round(y, 3, 100024, 1);
        round(y, 2, 100012 + 60, 1);
    }

    private static void roundNone() {
        Due.sentence("ROUND: none (TICK: if it cannot)");
        RoomsOfHours x = Due.laid("r1,1,0;r1,1,0;r1,1,0;d0,1,0,0;p0,0;");
        round(x, 3, 100036, 1);
        for (int set = 4; set < 8; set++) {
            round(x, set, Due.NONE, Due.NONE);
        }
        RoomsOfHours alone = Due.laid("r1,1,0;r1,1,0;p1,0;");
        round(alone, 0, 100000, 0);
        round(alone, 1, Due.NONE, Due.NONE);
        round(alone, 2, 100012, 0);
        round(alone, 3, Due.NONE, Due.NONE);
        // Where he cannot come, however far the doors there lead back.
        RoomsOfHours back = Due.laid("r1,1,0;r1,1,0;r1,1,0;d1,2,1,24;d2,1,1,24;p0,0;w0;");
        round(back, 1, 100012, 0);
        for (int set = 2; set < 8; set++) {
            round(back, set, Due.NONE, Due.NONE);
        }
    }

    // ---- hours

    private static void hourEdges() {
        Due.sentence("hour: such PERSONS as there are; HOUR h (0 to 23); whose 0 to 2");
        RoomsOfHours x = new RoomsOfHours();
        Due.range("hour(i, 0, 0)", 0, 1, i -> x.hour(i, 0, 0));
        for (int whose = 0; whose < 3; whose++) {
            int by = whose;
            Due.range("hour(0, h, " + whose + ")", 0, 23, h -> x.hour(0, h, by));
        }
        Due.range("hour(0, 0, whose)", 0, 2, whose -> x.hour(0, 0, whose));
    }

    /** Person 0 at so many ticks: rooms of 4 and 3 ticks an hour, and a door that leads an hour back. */
    private static RoomsOfHours atTick(int stays, int back, int staysThere) {
        RoomsOfHours x = Due.laid("r3,1,5;r4,1,7;d0,1,1,1;d0,1,0,0;p0,20;w0;");
        for (int n = 0; n < stays; n++) {
            x.stay(0, 1);
        }
        x.go(0, back == 0 ? 1 : 0);
        for (int n = 0; n < staysThere; n++) {
            x.stay(0, 1);
        }
        return x;
    }

    private static void hourOwnTickOrAbove() {
        Due.sentence("the lowest TICK, his own or above, at which it is h");
        RoomsOfHours now = atTick(0, 0, 0);
        Due.due("hour(0, 0, 0) at 0", now.hour(0, 0, 0), 100000);
        RoomsOfHours behind = atTick(1, 1, 3);
        Due.due("person(0, 1)", behind.person(0, 1), 100001);
        Due.due("hour(0, 0, 0) at 1", behind.hour(0, 0, 0), 100288);
        Due.due("hour(0, 1, 0) at 1", behind.hour(0, 1, 0), 100012);
        RoomsOfHours ahead = atTick(2, 1, 1);
        Due.due("person(0, 1)", ahead.person(0, 1), 100000 - 1);
        Due.due("hour(0, 0, 0) at -1", ahead.hour(0, 0, 0), 100000);
        Due.due("hour(0, 23, 0) at -1", ahead.hour(0, 23, 0), 100276);
        RoomsOfHours below = atTick(0, 1, 0);
        Due.due("hour(0, 23, 0) at -12", below.hour(0, 23, 0), 100000 - 12);
        Due.due("hour(0, 22, 0) at -12", below.hour(0, 22, 0), 100264);
    }

    private static void hourByHall() {
        Due.sentence("by the HALL (TICKS by 12, modulo 24)");
        RoomsOfHours x = Due.laid("r1,4,7;p0,50;");
        for (int h = 0; h < 24; h++) {
            Due.due("hour(0, " + h + ", 0)", x.hour(0, h, 0), 100000 + 12 * h);
        }
        x.stay(0, 6);
        Due.due("hour(0, 0, 0) at 288", x.hour(0, 0, 0), 100288);
        Due.due("hour(0, 23, 0) at 288", x.hour(0, 23, 0), 100564);
    }

    private static void hourByRoom() {
        Due.sentence("by the ROOM (its clock)");
        RoomsOfHours x = Due.laid("r1,4,23;r4,1,1;p0,50;p1,50;");
        Due.due("hour(0, 23, 1)", x.hour(0, 23, 1), 100000);
        Due.due("hour(0, 0, 1)", x.hour(0, 0, 1), 100048);
        Due.due("hour(0, 22, 1)", x.hour(0, 22, 1), 100000 + 23 * 48);
        Due.due("hour(1, 1, 1)", x.hour(1, 1, 1), 100000);
        Due.due("hour(1, 0, 1)", x.hour(1, 0, 1), 100069);
        RoomsOfHours below = atTick(2, 1, 0);
        // At -4 the clock of room 1 is 4/3 of an hour behind 7.
        Due.due("hour(0, 6, 1) at -4", below.hour(0, 6, 1), 100000 - 3);
        Due.due("hour(0, 7, 1) at -4", below.hour(0, 7, 1), 100000);
        Due.due("hour(0, 5, 1) at -4", below.hour(0, 5, 1), 100000 - 6 + 72);
    }

    private static void hourByHimself() {
        Due.sentence("by himself (how old he is, modulo 24)");
        RoomsOfHours x = Due.laid("r1,4,7;r4,1,7;p0,0;p0,23;p1,24;p1,99;");
        Due.due("hour(0, 0, 2) of 0", x.hour(0, 0, 2), 100000);
        Due.due("hour(0, 23, 2) of 0", x.hour(0, 23, 2), 100000 + 23 * 48);
        Due.due("hour(1, 23, 2) of 23", x.hour(1, 23, 2), 100000);
        Due.due("hour(1, 0, 2) of 23", x.hour(1, 0, 2), 100048);
        Due.due("hour(2, 0, 2) of 24", x.hour(2, 0, 2), 100000);
        Due.due("hour(2, 23, 2) of 24", x.hour(2, 23, 2), 100069);
        Due.due("hour(3, 3, 2) of 99", x.hour(3, 3, 2), 100000);
        Due.due("hour(3, 2, 2) of 99", x.hour(3, 2, 2), 100069);
        RoomsOfHours y = atTick(1, 1, 3);
        // He is 24 at 1, and his hours go by from there.
        Due.due("hour(0, 0, 2) at 1", y.hour(0, 0, 2), 100001);
        Due.due("hour(0, 1, 2) at 1", y.hour(0, 1, 2), 100004);
        Due.due("hour(0, 23, 2) at 1", y.hour(0, 23, 2), 100070);
    }

    private static void agreedEdges() {
        Due.sentence("agreed: such PERSONS as there are; i and j alike BAD, too; h 0 to 23");
        RoomsOfHours x = Due.laid("r1,1,0;p0,0;p0,0;p0,1;");
        Due.range("agreed(i, 2, 0)", 0, 1, i -> x.agreed(i, 2, 0));
        Due.range("agreed(0, j, 0)", 1, 2, j -> x.agreed(0, j, 0));
        Due.range("agreed(0, 1, h)", 0, 23, h -> x.agreed(0, 1, h));
        for (int i = 0; i < 3; i++) {
            Due.due("agreed(" + i + ", " + i + ", 0)", x.agreed(i, i, 0), Due.BAD);
        }
        Due.due("agreed(3, 3, 0)", x.agreed(3, 3, 0), Due.BAD);
        Due.due("agreed(3, 0, 0)", x.agreed(3, 0, 0), Due.BAD);
        Due.sentence("agreed: BAD ahead of NONE");
        Due.due("agreed(0, 2, 0)", x.agreed(0, 2, 0), Due.NONE);
        Due.due("agreed(0, 2, 24)", x.agreed(0, 2, 24), Due.BAD);
    }

    private static void agreed(RoomsOfHours x, int h, int due) {
        Due.due("agreed(0, 1, " + h + ")", x.agreed(0, 1, h), due);
        Due.due("agreed(1, 0, " + h + ")", x.agreed(1, 0, h), due);
    }

    private static void agreedOwnTicks() {
        Due.sentence("AGREED: both h old, modulo 24, at their own TICKS of now or above");
        RoomsOfHours x = Due.laid("r1,1,0;p0,5;p0,29;");
        agreed(x, 5, 100000);
        agreed(x, 6, 100012);
        agreed(x, 4, 100000 + 23 * 12);
        x.stay(0, 24);
        agreed(x, 5, 100288);
        agreed(x, 4, 100288 + 23 * 12);
        // He of 29 is 3 ticks off, ever: he has been an hour where it is 3 ticks.
        RoomsOfHours off = Due.laid("r1,1,0;r4,1,0;d0,1,0,0;p0,5;p1,4;w0;");
        off.stay(1, 1);
        off.go(1, 0);
        agreed(off, 5, Due.NONE);
        off.stay(1, 3);
        agreed(off, 8, Due.NONE);
        // Unlike paces: 12 h and 3 h + 3, days of 288 and 72 on: 9 h would be 3, modulo 72.
        RoomsOfHours unlike = Due.laid("r1,1,0;r4,1,0;p0,0;p1,23;");
        agreed(unlike, 0, Due.NONE);
        agreed(unlike, 23, Due.NONE);
        // 12 h and 3 h + 9: 9 h is 9, modulo 72, if h is 1, 9 or 17.
        RoomsOfHours met = Due.laid("r1,1,0;r4,1,0;p0,0;p1,21;");
        agreed(met, 1, 100012);
        agreed(met, 0, Due.NONE);
        agreed(met, 9, 100000 + 9 * 12);
        agreed(met, 17, 100000 + 17 * 12);
        agreed(met, 18, Due.NONE);
    }

    private static void agreedLast() {
        Due.sentence("AGREED: to 9999");
        // Both are at 9999: 8 days of 48 ticks an hour, then 261 hours of 3.
        RoomsOfHours x = Due.laid("r4,1,0;r1,4,0;d1,0,0,0;p1,0;p1,0;w0;");
        for (int i = 0; i < 2; i++) {
            for (int n = 0; n < 8; n++) {
                x.stay(i, 24);
            }
            x.go(i, 0);
            for (int n = 0; n < 10; n++) {
                x.stay(i, 24);
            }
        }
        // They are at 9936, 432 hours old: 21 hours to 9999.
        Due.due("person(0, 1)", x.person(0, 1), 109936);
        agreed(x, 0, 109936);
        agreed(x, 20, 109996);
        agreed(x, 21, 109999);
        agreed(x, 22, Due.NONE);
        agreed(x, 23, Due.NONE);
    }

    private static void agreedNone() {
        Due.sentence("AGREED: none, where one's own TICK is above 9999");
        RoomsOfHours x = Due.laid("r1,4,0;r1,1,0;p0,0;p1,0;");
        for (int n = 0; n < 9; n++) {
            x.stay(0, 24);
        }
        Due.due("person(0, 1)", x.person(0, 1), 110368);
        for (int h = 0; h < 24; h++) {
            agreed(x, h, Due.NONE);
        }
    }

    private static void agreedBelowZero() {
        Due.sentence("AGREED at TICKS below 0: 100000 more");
        RoomsOfHours x = Due.laid("r1,1,0;r1,1,0;d0,1,1,24;p0,0;p0,24;w0;");
        x.go(0, 0);
        x.go(1, 0);
        agreed(x, 0, 100000 - 288);
        agreed(x, 23, 100000 - 12);
        x.stay(1, 1);
        agreed(x, 0, 100000);
        agreed(x, 1, 100000 - 276);
        RoomsOfHours one = Due.laid("r1,1,0;r1,1,0;d0,1,1,24;p0,0;p0,0;w0;");
        one.go(0, 0);
        agreed(one, 0, 100000);
        agreed(one, 23, 100276);
    }
}
