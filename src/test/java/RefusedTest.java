import java.util.ArrayList;
import java.util.List;
import java.util.function.Supplier;
import java.util.function.ToIntFunction;

/** "Nothing changes then": each call that is refused, by each of its wrong numbers and in each state that refuses it. */
public final class RefusedTest {
    private static final String BUSY = "r1,1,0;r2,1,6;r1,3,12;d0,1,0,1;d1,2,1,2;d2,0,0,0;p0,20;p1,30;t1,1,9;t0,2,4;t2,3,9;w2;";
    /** 200 letters. */
    private static final String FULL_HOUSE = "r1,2,23;".repeat(6) + "d0,1,0,24;".repeat(8) + "p00,99;".repeat(4)
            + "t0,0,99;".repeat(5) + "w03;";

    /** A call, and what it is called in a message. */
    private static final class Call {
        final String name;
        final ToIntFunction<RoomsOfHours> calling;

        Call(String name, ToIntFunction<RoomsOfHours> calling) {
            this.name = name;
            this.calling = calling;
        }
    }

    public static void main(String[] args) {
        bad("at first", RoomsOfHours::new, 3, 3, 2, 2);
        bad("busy", RefusedTest::busy, 3, 3, 2, 3);
        bad("full", RefusedTest::full, 6, 8, 4, 5);
        bad("least", RefusedTest::least, 1, 0, 1, 0);
        no();
        full(RefusedTest::full);
        none();
        askingChangesNothing("busy", RefusedTest::busy);
        askingChangesNothing("full", RefusedTest::full);
        Due.end();
    }

    private static RoomsOfHours made(String text) {
        RoomsOfHours x = new RoomsOfHours();
        Due.type(x, text);
        x.lay();
        return x;
    }

    /** Acts of each kind, a thing that is had and one that was put, some seen, one kept, another text begun. */
    private static RoomsOfHours busy() {
        RoomsOfHours x = made(BUSY);
        x.stay(0, 2);
        x.take(0, 1);
        x.go(0, 0);
        x.put(0, 1);
        x.take(0, 0);
        x.keep();
        x.stay(1, 3);
        x.seen(0, 3, 3);
        x.seen(1, 3, 6);
        x.wipe();
        Due.type(x, "r3,1,5;p0,9;");
        return x;
    }

    /** As many of all as there may be. */
    private static RoomsOfHours full() {
        RoomsOfHours x = made(FULL_HOUSE);
        x.take(0, 0);
        x.take(1, 1);
        x.keep();
        for (int n = 2; n < 40; n++) {
            x.stay(n % 4, 1);
        }
        x.keep();
        for (int n = 0; n < 8; n++) {
            x.seen(n % 6, 2, 1);
        }
        return x;
    }

    private static RoomsOfHours least() {
        return made("r1,1,0;p0,0;");
    }

    private static void bad(String state, Supplier<RoomsOfHours> maker, int rooms, int doors, int persons, int things) {
        Due.sentence("BAD: a number is none that is told; nothing changes then (" + state + ")");
        List<Call> calls = new ArrayList<>();
        wrongRooms(calls, rooms);
        wrongDoors(calls, doors);
        wrongPersons(calls, persons);
        wrongThings(calls, things);
        wrongHouseNumbers(calls);
        wrongCourseNumbers(calls, 1 << rooms);
        wrongPaceNumbers(calls);
        for (Call call : calls) {
            Probe.refused(call.name, maker, call.calling, Due.BAD);
        }
    }

    private static int[] around(int low, int high) {
        return new int[] {low - 1, high + 1, Integer.MIN_VALUE, Integer.MAX_VALUE};
    }

    private static void wrongRooms(List<Call> calls, int rooms) {
        for (int r : around(0, rooms - 1)) {
            calls.add(new Call("room(" + r + ", 0)", x -> x.room(r, 0)));
            calls.add(new Call("clock(" + r + ", 0, 0)", x -> x.clock(r, 0, 0)));
            calls.add(new Call("early(0, " + r + ", 8, 0)", x -> x.early(0, r, 8, 0)));
            calls.add(new Call("seen(" + r + ", 1, 1)", x -> x.seen(r, 1, 1)));
            calls.add(new Call("paces(" + r + ")", x -> x.paces(r)));
            calls.add(new Call("look(" + r + ", 0)", x -> x.look(r, 0)));
            calls.add(new Call("mended(" + r + ")", x -> x.mended(r)));
        }
    }

    private static void wrongDoors(List<Call> calls, int doors) {
        for (int d : around(0, doors - 1)) {
            calls.add(new Call("door(" + d + ", 0)", x -> x.door(d, 0)));
            calls.add(new Call("go(0, " + d + ")", x -> x.go(0, d)));
        }
    }

    private static void wrongPersons(List<Call> calls, int persons) {
        for (int i : around(0, persons - 1)) {
            calls.add(new Call("person(" + i + ", 0)", x -> x.person(i, 0)));
            calls.add(new Call("stay(" + i + ", 1)", x -> x.stay(i, 1)));
            calls.add(new Call("go(" + i + ", 0)", x -> x.go(i, 0)));
            calls.add(new Call("take(" + i + ", 0)", x -> x.take(i, 0)));
            calls.add(new Call("put(" + i + ", 0)", x -> x.put(i, 0)));
            calls.add(new Call("meet(" + i + ", 0, 0)", x -> x.meet(i, 0, 0)));
            calls.add(new Call("meet(0, " + i + ", 0)", x -> x.meet(0, i, 0)));
            calls.add(new Call("early(" + i + ", 0, 8, 0)", x -> x.early(i, 0, 8, 0)));
            calls.add(new Call("round(" + i + ", 1, 0)", x -> x.round(i, 1, 0)));
            calls.add(new Call("hour(" + i + ", 1, 0)", x -> x.hour(i, 1, 0)));
            calls.add(new Call("agreed(" + i + ", 0, 0)", x -> x.agreed(i, 0, 0)));
            calls.add(new Call("agreed(0, " + i + ", 0)", x -> x.agreed(0, i, 0)));
            calls.add(new Call("day(0, " + i + ", 0)", x -> x.day(0, i, 0)));
        }
        calls.add(new Call("agreed(0, 0, 0)", x -> x.agreed(0, 0, 0)));
    }

    private static void wrongThings(List<Call> calls, int things) {
        for (int t : around(0, things - 1)) {
            calls.add(new Call("thing(" + t + ", 0)", x -> x.thing(t, 0)));
            calls.add(new Call("worth(" + t + ", 0)", x -> x.worth(t, 0)));
            calls.add(new Call("take(0, " + t + ")", x -> x.take(0, t)));
            calls.add(new Call("put(0, " + t + ")", x -> x.put(0, t)));
            calls.add(new Call("shelf(" + t + ", 1)", x -> x.shelf(t, 1)));
        }
    }

    private static void wrongHouseNumbers(List<Call> calls) {
        for (int n : around(32, 126)) {
            calls.add(new Call("write(" + n + ")", x -> x.write(n)));
        }
        for (int n : around(-9999, 9999)) {
            calls.add(new Call("clock(0, " + n + ", 0)", x -> x.clock(0, n, 0)));
            calls.add(new Call("worth(0, " + n + ")", x -> x.worth(0, n)));
        }
        for (int n : around(0, 3)) {
            calls.add(new Call("room(0, " + n + ")", x -> x.room(0, n)));
        }
        for (int n : around(0, 2)) {
            calls.add(new Call("door(0, " + n + ")", x -> x.door(0, n)));
            calls.add(new Call("ring(" + n + ")", x -> x.ring(n)));
            calls.add(new Call("early(0, 0, 8, " + n + ")", x -> x.early(0, 0, 8, n)));
            calls.add(new Call("hour(0, 0, " + n + ")", x -> x.hour(0, 0, n)));
        }
        for (int n : around(0, 4)) {
            calls.add(new Call("person(0, " + n + ")", x -> x.person(0, n)));
        }
        for (int n : around(0, 5)) {
            calls.add(new Call("thing(0, " + n + ")", x -> x.thing(0, n)));
        }
        for (int n : around(0, 8)) {
            calls.add(new Call("count(" + n + ")", x -> x.count(n)));
        }
    }

    private static void wrongCourseNumbers(List<Call> calls, int sets) {
        for (int n : around(1, 24)) {
            calls.add(new Call("stay(0, " + n + ")", x -> x.stay(0, n)));
        }
        for (int n : around(0, 1)) {
            calls.add(new Call("clock(0, 0, " + n + ")", x -> x.clock(0, 0, n)));
            calls.add(new Call("meet(0, 0, " + n + ")", x -> x.meet(0, 0, n)));
            calls.add(new Call("round(0, 0, " + n + ")", x -> x.round(0, 0, n)));
            calls.add(new Call("look(0, " + n + ")", x -> x.look(0, n)));
            calls.add(new Call("day(0, 0, " + n + ")", x -> x.day(0, 0, n)));
        }
        for (int n : around(0, 8)) {
            calls.add(new Call("early(0, 0, " + n + ", 0)", x -> x.early(0, 0, n, 0)));
        }
        for (int n : around(0, sets - 1)) {
            calls.add(new Call("round(0, " + n + ", 0)", x -> x.round(0, n, 0)));
        }
        for (int n : around(0, 23)) {
            calls.add(new Call("hour(0, " + n + ", 0)", x -> x.hour(0, n, 0)));
            calls.add(new Call("agreed(0, 1, " + n + ")", x -> x.agreed(0, 1, n)));
        }
    }

    private static void wrongPaceNumbers(List<Call> calls) {
        for (int n : around(1, 99)) {
            calls.add(new Call("shelf(0, " + n + ")", x -> x.shelf(0, n)));
            calls.add(new Call("seen(0, " + n + ", 1)", x -> x.seen(0, n, 1)));
        }
        for (int n : around(0, 400)) {
            calls.add(new Call("seen(0, 1, " + n + ")", x -> x.seen(0, 1, n)));
        }
        for (int n : around(0, 9999)) {
            calls.add(new Call("day(" + n + ", 0, 0)", x -> x.day(n, 0, 0)));
        }
    }

    private static void no() {
        Due.sentence("NO: not as things stand; nothing changes then");
        Probe.refused("lay() of an empty text", RoomsOfHours::new, x -> x.lay(), Due.NO);
        Probe.refused("lay() of a fault", () -> typed("x"), x -> x.lay(), Due.NO);
        Probe.refused("lay() of no person", () -> typed("r3,1,5;"), x -> x.lay(), Due.NO);
        Probe.refused("lay() of a fault behind a whole house", () -> typed("r3,1,5;p0,9;w"), x -> x.lay(), Due.NO);
        Probe.refused("worth(0, 100) that is had", RefusedTest::busy, x -> x.worth(0, 100), Due.NO);
        Probe.refused("worth(2, -1) since later", RefusedTest::busy, x -> x.worth(2, -1), Due.NO);
        Probe.refused("go(1, 2), none of his room", RefusedTest::busy, x -> x.go(1, 2), Due.NO);
        Probe.refused("take(0, 2), in another room", RefusedTest::busy, x -> x.take(0, 2), Due.NO);
        Probe.refused("take(1, 1), not yet", RefusedTest::busy, x -> x.take(1, 1), Due.NO);
        Probe.refused("take(1, 0), another has it", RefusedTest::busy, x -> x.take(1, 0), Due.NO);
        Probe.refused("take(0, 0), he has it", RefusedTest::busy, x -> x.take(0, 0), Due.NO);
        Probe.refused("put(1, 0), another has it", RefusedTest::busy, x -> x.put(1, 0), Due.NO);
        Probe.refused("put(0, 1), it lies there", RefusedTest::busy, x -> x.put(0, 1), Due.NO);
        Probe.refused("undo() of none", RoomsOfHours::new, x -> x.undo(), Due.NO);
        Probe.refused("back() of none", RoomsOfHours::new, x -> x.back(), Due.NO);
        Probe.refused("undo() when all are undone", RefusedTest::undone, x -> x.undo(), Due.NO);
        Probe.refused("back() when all are had back", RefusedTest::hadBack, x -> x.back(), Due.NO);
        Due.sentence("NO ahead of FULL; nothing changes then");
        Probe.refused("take(2, 0), another has it", RefusedTest::full, x -> x.take(2, 0), Due.NO);
        Probe.refused("put(2, 0), another has it", RefusedTest::full, x -> x.put(2, 0), Due.NO);
    }

    private static RoomsOfHours typed(String text) {
        RoomsOfHours x = busy();
        x.wipe();
        Due.type(x, text);
        return x;
    }

    private static RoomsOfHours undone() {
        RoomsOfHours x = busy();
        for (int n = 0; n < 6; n++) {
            x.undo();
        }
        return x;
    }

    private static RoomsOfHours hadBack() {
        RoomsOfHours x = busy();
        x.back();
        x.stay(1, 1);
        return x;
    }

    private static void full(Supplier<RoomsOfHours> maker) {
        Due.sentence("FULL; nothing changes then");
        for (int n : new int[] {32, 59, 126}) {
            Probe.refused("write(" + n + ")", maker, x -> x.write(n), Due.FULL);
        }
        for (int n : new int[] {1, 24}) {
            Probe.refused("stay(3, " + n + ")", maker, x -> x.stay(3, n), Due.FULL);
        }
        Probe.refused("go(0, 0)", maker, x -> x.go(0, 0), Due.FULL);
        Probe.refused("go(3, 7)", maker, x -> x.go(3, 7), Due.FULL);
        Probe.refused("take(0, 4)", maker, x -> x.take(0, 4), Due.FULL);
        Probe.refused("put(0, 0)", maker, x -> x.put(0, 0), Due.FULL);
        Probe.refused("seen(0, 1, 0)", maker, x -> x.seen(0, 1, 0), Due.FULL);
        Probe.refused("keep()", maker, x -> x.keep(), Due.FULL);
    }

    private static void none() {
        Due.sentence("NONE: there is none; nothing changes then");
        Probe.refused("fault()", RefusedTest::busy, x -> x.fault(), Due.NONE);
        Probe.refused("thing(0, 2)", RefusedTest::busy, x -> x.thing(0, 2), Due.NONE);
        Probe.refused("thing(1, 3)", RefusedTest::busy, x -> x.thing(1, 3), Due.NONE);
        Probe.refused("thing(0, 4)", RefusedTest::busy, x -> x.thing(0, 4), Due.NONE);
        Probe.refused("meet(1, 1, 0)", RefusedTest::busy, x -> x.meet(1, 1, 0), Due.NONE);
        Probe.refused("early(0, 0, 0, 0)", RefusedTest::busy, x -> x.early(0, 0, 0, 0), Due.NONE);
        Probe.refused("ring(0)", RefusedTest::least, x -> x.ring(0), Due.NONE);
        Probe.refused("round(0, 62, 0)", RefusedTest::full, x -> x.round(0, 62, 0), Due.NONE);
        Probe.refused("agreed(0, 1, 0)", RefusedTest::busy, x -> x.agreed(0, 1, 0), Due.NONE);
        Probe.refused("look(1, 0)", RefusedTest::seenAgainst, x -> x.look(1, 0), Due.NONE);
    }

    private static RoomsOfHours seenAgainst() {
        RoomsOfHours x = busy();
        x.seen(1, 1, 400);
        return x;
    }

    private static void askingChangesNothing(String state, Supplier<RoomsOfHours> maker) {
        Due.sentence("what is but asked changes nothing (" + state + ")");
        List<Call> calls = new ArrayList<>();
        calls.add(new Call("fault()", x -> x.fault()));
        calls.add(new Call("room(0, 3)", x -> x.room(0, 3)));
        calls.add(new Call("clock(0, -1, 0)", x -> x.clock(0, -1, 0)));
        calls.add(new Call("door(0, 2)", x -> x.door(0, 2)));
        calls.add(new Call("person(0, 1)", x -> x.person(0, 1)));
        calls.add(new Call("thing(0, 5)", x -> x.thing(0, 5)));
        calls.add(new Call("worth(2, 9999)", x -> x.worth(2, 9999)));
        calls.add(new Call("meet(0, 1, 0)", x -> x.meet(0, 1, 0)));
        calls.add(new Call("early(0, 0, 8, 0)", x -> x.early(0, 0, 8, 0)));
        calls.add(new Call("ring(0)", x -> x.ring(0)));
        calls.add(new Call("even()", x -> x.even()));
        calls.add(new Call("round(0, 3, 0)", x -> x.round(0, 3, 0)));
        calls.add(new Call("hour(0, 23, 1)", x -> x.hour(0, 23, 1)));
        calls.add(new Call("agreed(0, 1, 0)", x -> x.agreed(0, 1, 0)));
        calls.add(new Call("shelf(0, 99)", x -> x.shelf(0, 99)));
        calls.add(new Call("paces(0)", x -> x.paces(0)));
        calls.add(new Call("look(0, 0)", x -> x.look(0, 0)));
        calls.add(new Call("mended(0)", x -> x.mended(0)));
        calls.add(new Call("day(9999, 0, 0)", x -> x.day(9999, 0, 0)));
        calls.add(new Call("count(4)", x -> x.count(4)));
        for (Call call : calls) {
            Probe.nothingChanges(call.name, maker, call.calling::applyAsInt);
        }
    }
}
