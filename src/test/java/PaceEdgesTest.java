/** Promises 24 to 30: a test of its own for each boundary of shelves, paces, clocks mended and days. */
public final class PaceEdgesTest {
    public static void main(String[] args) {
        shelfEdges();
        shelfMostWorth();
        shelfLowestOfSeveral();
        shelfAsOldAsPut();
        shelfAsOldAsWithHim();
        seenEdges();
        seenAtMost();
        forgetAll();
        pacesEdges();
        pacesCut();
        pacesOfTheRoom();
        lookEdges();
        lookFewest();
        lookNone();
        mendedEdges();
        mendedAnotherTick();
        mendedSamePace();
        mendedLeftOut();
        dayEdges();
        daySteps();
        dayFromNowOn();
        dayWithoutDoors();
        Due.end();
    }

    // ---- shelf

    private static void shelfEdges() {
        Due.sentence("shelf: such THINGS as there are; n hours of the HALL (1 to 99)");
        RoomsOfHours x = new RoomsOfHours();
        Due.range("shelf(t, 1)", 0, 1, t -> x.shelf(t, 1));
        Due.range("shelf(0, n)", 1, 99, n -> x.shelf(0, n));
        Due.range("shelf(1, n)", 1, 99, n -> x.shelf(1, n));
        RoomsOfHours five = Due.laid("r1,1,0;p0,0;" + "t0,0,1;".repeat(5));
        Due.range("shelf(t, 99)", 0, 4, t -> five.shelf(t, 99));
        Due.due("shelf(0, 1) without things", Due.laid("r1,1,0;p0,0;").shelf(0, 1), Due.BAD);
    }

    private static void shelf(RoomsOfHours x, int t, int n, int due) {
        Due.due("shelf(" + t + ", " + n + ")", x.shelf(t, n), due);
    }

    private static void shelfMostWorth() {
        Due.sentence("the ROOM in which it would be of most WORTH behind n hours of the HALL there");
        // Hours of rooms for an hour of the hall: 1, 4, and a quarter.
        RoomsOfHours x = Due.laid("r1,1,0;r4,1,0;r1,4,0;p0,0;t0,1,25;t0,2,99;t0,3,99;t0,3,25;t0,2,4;");
        // Tea of 25: in room 2 of 24 behind 4 hours, and 1 behind 99 hours (24 and 3/4, cut).
        shelf(x, 0, 1, 2);
        shelf(x, 0, 4, 2);
        shelf(x, 0, 99, 2);
        // Soup of 99: in room 1 behind 25 hours, in room 0 behind 99.
        shelf(x, 1, 24, 0);
        shelf(x, 1, 25, 1);
        shelf(x, 1, 98, 1);
        shelf(x, 1, 99, 0);
        // Bread of 99: in room 0 to 98 hours.
        shelf(x, 2, 98, 0);
        shelf(x, 2, 99, 2);
        shelf(x, 3, 24, 0);
        shelf(x, 3, 25, 2);
        shelf(x, 3, 99, 2);
        shelf(x, 4, 1, 1);
        shelf(x, 4, 3, 1);
        shelf(x, 4, 4, 0);
    }

    private static void shelfLowestOfSeveral() {
        Due.sentence("of several the lowest");
        RoomsOfHours x = Due.laid("r4,1,0;r1,4,0;r1,4,0;r2,2,0;p0,0;t0,0,9;t3,1,99;t3,1,1;t3,2,99;t3,3,1;");
        shelf(x, 0, 99, 0);
        shelf(x, 1, 99, 1);
        // Cold everywhere, cooked nowhere.
        shelf(x, 2, 99, 0);
        shelf(x, 3, 1, 0);
        shelf(x, 4, 99, 0);
        // Tea of 99 is as much in all rooms while no hour has gone by in the slow ones, cut.
        RoomsOfHours y = Due.laid("r1,2,0;r1,4,0;p0,0;t0,1,99;");
        shelf(y, 0, 1, 0);
        shelf(y, 0, 2, 1);
    }

    private static void shelfAsOldAsPut() {
        Due.sentence("as old as it was when it was put (told) where it lies");
        RoomsOfHours x = Due.laid("r1,1,0;r1,4,0;p0,0;t0,3,3;");
        shelf(x, 0, 2, 0);
        shelf(x, 0, 3, 1);
        x.stay(0, 24);
        shelf(x, 0, 2, 0);
        x.take(0, 0);
        shelf(x, 0, 1, 0);
        x.undo();
        x.undo();
        x.stay(0, 1);
        x.take(0, 0);
        x.put(0, 0);
        x.stay(0, 24);
        // An hour old when it was put.
        shelf(x, 0, 1, 0);
        shelf(x, 0, 2, 1);
        shelf(x, 0, 7, 1);
        shelf(x, 0, 8, 0);
    }

    private static void shelfAsOldAsWithHim() {
        Due.sentence("or is with him who has it");
        RoomsOfHours x = Due.laid("r1,4,0;r1,1,0;p0,0;t0,2,5;");
        x.take(0, 0);
        shelf(x, 0, 4, 0);
        shelf(x, 0, 5, 1);
        x.stay(0, 1);
        shelf(x, 0, 3, 0);
        shelf(x, 0, 4, 1);
        x.stay(0, 3);
        shelf(x, 0, 1, 1);
        shelf(x, 0, 4, 0);
        x.stay(0, 1);
        shelf(x, 0, 1, 0);
    }

    // ---- seen, paces, look

    private static void seenEdges() {
        Due.sentence("seen: such ROOMS as there are; in t hours (1 to 99); by c hours (0 to 400)");
        Due.range("seen(r, 1, 1)", 0, 2, r -> new RoomsOfHours().seen(r, 1, 1));
        Due.range("seen(0, t, 1)", 1, 99, t -> new RoomsOfHours().seen(0, t, 1));
        Due.range("seen(0, 1, c)", 0, 400, c -> new RoomsOfHours().seen(0, 1, c));
        Due.sentence("seen: what is BAD is not SEEN");
        RoomsOfHours x = new RoomsOfHours();
        x.seen(3, 1, 0);
        x.seen(0, 0, 0);
        x.seen(0, 100, 0);
        x.seen(0, 1, -1);
        x.seen(0, 1, 401);
        Due.due("count(5)", x.count(5), 0);
        Due.due("paces(0)", x.paces(0), 65535);
    }

    private static void seenAtMost() {
        Due.sentence("SEEN (8 at most): how many; FULL");
        RoomsOfHours x = new RoomsOfHours();
        for (int n = 1; n <= 8; n++) {
            Due.due("seen(" + n % 3 + ", 1, 1)", x.seen(n % 3, 1, 1), n);
            Due.due("count(5)", x.count(5), n);
        }
        int before = x.paces(0);
        Due.due("seen(0, 1, 0), the ninth", x.seen(0, 1, 0), Due.FULL);
        Due.due("count(5)", x.count(5), 8);
        Due.due("paces(0) as before", x.paces(0), before);
        Due.sentence("Of several the first: BAD ahead of FULL");
        Due.due("seen(3, 1, 0), the ninth", x.seen(3, 1, 0), Due.BAD);
        Due.due("seen(0, 0, 0), the ninth", x.seen(0, 0, 0), Due.BAD);
        Due.due("seen(0, 100, 0), the ninth", x.seen(0, 100, 0), Due.BAD);
        Due.due("seen(0, 1, -1), the ninth", x.seen(0, 1, -1), Due.BAD);
        Due.due("seen(0, 1, 401), the ninth", x.seen(0, 1, 401), Due.BAD);
    }

    private static void forgetAll() {
        Due.sentence("Nothing is SEEN: how many were");
        RoomsOfHours x = new RoomsOfHours();
        Due.due("forget() of none", x.forget(), 0);
        x.seen(0, 1, 0);
        Due.due("forget() of one", x.forget(), 1);
        Due.due("forget() again", x.forget(), 0);
        Due.due("paces(0)", x.paces(0), 65535);
        for (int n = 0; n < 8; n++) {
            x.seen(1, 1, 0);
        }
        Due.due("forget() of eight", x.forget(), 8);
        Due.due("count(5)", x.count(5), 0);
        Due.due("seen(0, 1, 4) behind it", x.seen(0, 1, 4), 1);
        Due.due("paces(0)", x.paces(0), 1 << 12);
        Due.due("paces(1)", x.paces(1), 65535);
        Due.sentence("SEEN and forgotten: no ACTS, nothing KEPT or written");
        x.stay(0, 1);
        x.keep();
        x.write('r');
        x.seen(0, 1, 4);
        Due.due("forget() of two", x.forget(), 2);
        int[] counts = {3, 3, 2, 2, 1, 0, 1, 1, 1};
        for (int what = 0; what < counts.length; what++) {
            Due.due("count(" + what + ") behind forget()", x.count(what), counts[what]);
        }
    }

    private static int bits(int... pace) {
        int bits = 0;
        for (int one : pace) {
            bits |= 1 << 4 * (one / 10 - 1) + one % 10 - 1;
        }
        return bits;
    }

    private static void pacesEdges() {
        Due.sentence("paces: such ROOMS as there are; bits, 4 times P less 1 and Q less 1 together");
        RoomsOfHours x = new RoomsOfHours();
        Due.range("paces(r)", 0, 2, r -> x.paces(r));
        Due.due("paces(0) of nothing seen", x.paces(0), 65535);
        RoomsOfHours one = Due.laid("r1,1,0;p0,0;");
        Due.range("paces(r) of one", 0, 0, r -> one.paces(r));
        // 1 by 4 is the slowest, bit 3; 4 by 1 the fastest, bit 12.
        one.seen(0, 99, 24);
        Due.due("paces(0) of 24 in 99", one.paces(0), 1 << 3);
        one.forget();
        one.seen(0, 99, 396);
        Due.due("paces(0) of 396 in 99", one.paces(0), 1 << 12);
        one.forget();
        one.seen(0, 99, 397);
        Due.due("paces(0) of 397 in 99", one.paces(0), 0);
        one.forget();
        one.seen(0, 99, 23);
        Due.due("paces(0) of 23 in 99", one.paces(0), 0);
        one.forget();
        one.seen(0, 99, 99);
        Due.due("paces(0) of 99 in 99", one.paces(0), bits(11, 22, 33, 44));
    }

    private static void pacesCut() {
        Due.sentence("a ROOM's clock went on by c hours, cut");
        RoomsOfHours x = new RoomsOfHours();
        x.seen(0, 1, 0);
        Due.due("paces(0) of 0 in 1", x.paces(0), bits(12, 13, 14, 23, 24, 34));
        x.forget();
        x.seen(0, 1, 1);
        Due.due("paces(0) of 1 in 1", x.paces(0), bits(11, 22, 32, 33, 43, 44));
        x.forget();
        x.seen(0, 3, 2);
        Due.due("paces(0) of 2 in 3", x.paces(0), bits(23, 34));
        x.seen(0, 4, 3);
        Due.due("paces(0) of 3 in 4, too", x.paces(0), bits(34));
        x.seen(0, 4, 2);
        Due.due("paces(0) of 2 in 4, too", x.paces(0), 0);
    }

    private static void pacesOfTheRoom() {
        Due.sentence("those by which all that was SEEN of it is so");
        RoomsOfHours x = new RoomsOfHours();
        x.seen(0, 1, 4);
        x.seen(1, 1, 3);
        x.seen(2, 4, 1);
        Due.due("paces(0)", x.paces(0), bits(41));
        Due.due("paces(1)", x.paces(1), bits(31));
        Due.due("paces(2)", x.paces(2), bits(13, 14));
        x.seen(2, 3, 0);
        Due.due("paces(2)", x.paces(2), bits(14));
        Due.due("paces(0): another room's", x.paces(0), bits(41));
    }

    private static void lookEdges() {
        Due.sentence("look: such ROOMS as there are; what 0, 1");
        RoomsOfHours x = new RoomsOfHours();
        Due.range("look(r, 0)", 0, 2, r -> x.look(r, 0));
        Due.range("look(0, what)", 0, 1, what -> x.look(0, what));
        Due.sentence("look: BAD ahead of NONE");
        x.seen(0, 1, 400);
        Due.due("look(0, 0)", x.look(0, 0), Due.NONE);
        Due.due("look(0, 2)", x.look(0, 2), Due.BAD);
        Due.due("look(0, -1)", x.look(0, -1), Due.BAD);
    }

    private static void look(int hours, int by, int t, int howMany) {
        RoomsOfHours x = new RoomsOfHours();
        x.seen(1, hours, by);
        Due.due("look(1, 0), " + by + " seen in " + hours, x.look(1, 0), t);
        Due.due("look(1, 1), " + by + " seen in " + hours, x.look(1, 1), howMany);
        Due.due("look(0, 0), nothing seen", x.look(0, 0), 3);
        Due.due("look(0, 1), nothing seen", x.look(0, 1), 4);
    }

    private static void lookFewest() {
        Due.sentence("the t by which those that would show the same are fewest at the worst, of several the lowest");
        // One PACE, or such as never differ: the lowest t of all.
        look(99, 396, 1, 1);
        look(1, 2, 1, 2);
        look(99, 99, 1, 4);
        // 1 by 2, 2 by 4 and 1 by 3.
        look(3, 1, 2, 2);
        // 2 by 3 and 3 by 4 differ at 4 first.
        look(3, 2, 4, 1);
        // All that are slower than 1 by 1.
        look(1, 0, 5, 2);
    }

    private static void lookNone() {
        Due.sentence("LOOK: none (no PACE is so)");
        RoomsOfHours x = new RoomsOfHours();
        x.seen(1, 1, 4);
        Due.due("look(1, 0) of one pace", x.look(1, 0), 1);
        Due.due("look(1, 1) of one pace", x.look(1, 1), 1);
        x.seen(1, 1, 3);
        Due.due("look(1, 0) of none", x.look(1, 0), Due.NONE);
        Due.due("look(1, 1) of none", x.look(1, 1), Due.NONE);
        Due.due("look(0, 1) of another room", x.look(0, 1), 4);
        x.forget();
        Due.due("look(1, 0) behind forget()", x.look(1, 0), 3);
    }

    // ---- mended

    private static void mendedEdges() {
        Due.sentence("mended: such ROOMS as there are");
        RoomsOfHours x = new RoomsOfHours();
        Due.range("mended(r)", 0, 2, r -> x.mended(r));
        for (int r = 0; r < 3; r++) {
            Due.due("mended(" + r + ") of no acts", x.mended(r), 0);
        }
        RoomsOfHours six = Due.laid("r2,1,0;".repeat(6) + "p5,0;");
        Due.range("mended(r) of six", 0, 5, r -> six.mended(r));
        six.stay(0, 1);
        Due.due("mended(5)", six.mended(5), 1);
        Due.due("mended(4)", six.mended(4), 0);
    }

    private static void mendedAnotherTick() {
        Due.sentence("the PERSONS (bits) whose TICK would be another one");
        RoomsOfHours x = Due.laid("r2,1,0;r1,4,0;d0,1,0,0;p0,0;p0,0;p1,0;p1,0;");
        x.stay(3, 1);
        Due.due("mended(1)", x.mended(1), 8);
        Due.due("mended(0)", x.mended(0), 0);
        x.stay(0, 1);
        Due.due("mended(0)", x.mended(0), 1);
        x.stay(1, 1);
        x.stay(2, 1);
        Due.due("mended(0)", x.mended(0), 3);
        Due.due("mended(1)", x.mended(1), 12);
        x.go(0, 0);
        x.stay(0, 1);
        Due.due("mended(1)", x.mended(1), 13);
        x.go(3, 0);
        x.stay(3, 1);
        Due.due("mended(0): all but one", x.mended(0), 11);
        Due.due("person(0, 1): nothing changes", x.person(0, 1), 100000 + 6 + 6 + 48);
        Due.due("room(0, 0): nothing changes", x.room(0, 0), 2);
        Due.sentence("MENDED: by W hours of going, too");
        RoomsOfHours w = Due.laid("r2,1,0;r2,1,0;d0,1,0,9;p0,0;w1;");
        w.go(0, 0);
        Due.due("mended(0)", w.mended(0), 1);
        Due.due("mended(1)", w.mended(1), 0);
        RoomsOfHours none = Due.laid("r2,1,0;r2,1,0;d0,1,0,9;p0,0;w0;");
        none.go(0, 0);
        Due.due("mended(0) by W 0", none.mended(0), 0);
    }

    private static void mendedSamePace() {
        Due.sentence("if a ROOM had PACE 1 by 1");
        for (int p = 1; p <= 4; p++) {
            for (int q = 1; q <= 4; q++) {
                RoomsOfHours x = Due.laid("r" + p + "," + q + ",7;p0,0;");
                x.stay(0, 24);
                Due.due("mended(0) of " + p + " by " + q, x.mended(0), p == q ? 0 : 1);
            }
        }
    }

    private static void mendedLeftOut() {
        Due.sentence("all ACTS done again (those that could not be then left out)");
        // He takes at 48 what another has put at 36; by a clock that is mended he would come at 12, and take nothing.
        RoomsOfHours x = Due.laid("r1,4,0;r1,1,0;d0,1,0,0;p0,0;p1,0;t1,0,9;");
        x.stay(1, 3);
        x.take(1, 0);
        x.put(1, 0);
        x.go(0, 0);
        Due.due("take(0, 0)", x.take(0, 0), 1);
        x.stay(0, 1);
        Due.due("put(0, 0)", x.put(0, 0), 0);
        x.stay(1, 1);
        Due.due("mended(0)", x.mended(0), 1);
        Due.due("mended(1)", x.mended(1), 0);
        Due.due("count(4): nothing changes", x.count(4), 8);
        Due.due("thing(0, 4): nothing changes", x.thing(0, 4), 100060);
        // The ticks of those who are not in that room stay as they are.
        RoomsOfHours back = Due.laid("r2,1,0;r1,1,0;d0,1,0,0;p0,0;p1,0;t0,0,9;");
        back.stay(0, 2);
        back.take(0, 0);
        back.put(0, 0);
        back.go(1, 0);
        Due.due("take(1, 0) at 12, put at 12", back.take(1, 0), 1);
        back.stay(1, 2);
        Due.due("mended(0): the stays are done again", back.mended(0), 3);
        Due.due("mended(1)", back.mended(1), 0);
    }

    // ---- day

    private static void dayEdges() {
        Due.sentence("day: z (0 to 9999); such PERSONS as there are; what 0, 1");
        RoomsOfHours x = new RoomsOfHours();
        Due.range("day(z, 0, 0)", 0, 9999, z -> x.day(z, 0, 0));
        Due.range("day(z, 1, 1)", 0, 9999, z -> x.day(z, 1, 1));
        Due.range("day(0, i, 0)", 0, 1, i -> x.day(0, i, 0));
        Due.range("day(0, 0, what)", 0, 1, what -> x.day(0, 0, what));
    }

    /** DRAW by z and k, in figures that cannot wrap around. */
    private static int draw(int z, int k) {
        java.math.BigInteger x = java.math.BigInteger.valueOf(7919L * z + 6151L * k + 1);
        return x.multiply(x).mod(java.math.BigInteger.valueOf(65521)).intValue();
    }

    private static void daySteps() {
        Due.sentence("in step k (0 to 11): he STAYS; else he GOES by DOOR, if it is one of his ROOM");
        String text = "r1,2,0;r3,1,0;r4,3,0;d0,1,0,3;d1,2,1,2;d2,0,1,1;d1,2,0,5;d0,1,1,7;p0,0;p2,0;w2;";
        for (int z = 0; z <= 9999; z = z < 9900 ? z + 99 : z + 1) {
            RoomsOfHours asked = Due.laid(text);
            RoomsOfHours done = Due.laid(text);
            for (int k = 0; k <= 11; k++) {
                int draw = draw(z, k);
                if (draw % 3 == 0) {
                    done.stay(z % 2, draw / 4 % 3 + 1);
                } else {
                    done.go(z % 2, draw / 8 % 5);
                }
            }
            Due.due("day(" + z + ", " + z % 2 + ", 0)", asked.day(z, z % 2, 0), done.person(z % 2, 1));
            Due.due("day(" + z + ", " + z % 2 + ", 1)", asked.day(z, z % 2, 1), done.person(z % 2, 0));
            Due.due("count(4): it is but told", asked.count(4), 0);
        }
    }

    private static void dayFromNowOn() {
        Due.sentence("A DAY of a PERSON from now on; TICKS below 0 are 100000 more");
        String text = "r1,1,0;r1,1,0;d0,1,1,24;p0,0;w0;";
        RoomsOfHours x = Due.laid(text);
        x.go(0, 0);
        x.stay(0, 1);
        int tick = -276;
        int room = 1;
        for (int k = 0; k <= 11; k++) {
            int draw = draw(9999, k);
            if (draw % 3 == 0) {
                tick += 12 * (draw / 4 % 3 + 1);
            } else {
                tick += room == 0 ? -288 : 288;
                room = 1 - room;
            }
        }
        Due.due("day(9999, 0, 0)", x.day(9999, 0, 0), 100000 + tick);
        Due.due("day(9999, 0, 1)", x.day(9999, 0, 1), room);
        RoomsOfHours full = Due.laid(text);
        for (int n = 0; n < 40; n++) {
            full.go(0, 0);
        }
        Due.due("day(9999, 0, 1) where no act more can be done", full.day(9999, 0, 1), 1 - room);
    }

    private static void dayWithoutDoors() {
        Due.sentence("how many there are (if there are any)");
        RoomsOfHours x = Due.laid("r1,4,0;p0,0;");
        for (int z : new int[] {0, 1, 5000, 9999}) {
            int hours = 0;
            for (int k = 0; k <= 11; k++) {
                hours += draw(z, k) % 3 == 0 ? draw(z, k) / 4 % 3 + 1 : 0;
            }
            Due.due("day(" + z + ", 0, 0)", x.day(z, 0, 0), 100000 + 48 * hours);
            Due.due("day(" + z + ", 0, 1)", x.day(z, 0, 1), 0);
        }
    }
}
