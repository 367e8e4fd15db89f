import java.util.ArrayList;
import java.util.List;
import java.util.function.ToIntFunction;

/** What holds for all calls: how ticks are told, below 0 too, what the constants are, and the 512 calls of an object. */
public final class ToldTest {
    public static void main(String[] args) {
        constants();
        belowZero();
        justBelowZero();
        dayBelowZero();
        aboveZero();
        ofNone();
        asTheyAre();
        callsOfAnObject();
        actsAndUndone();
        Due.end();
    }

    private static void constants() {
        Due.sentence("BAD = -1, NO = -2, FULL = -3, NONE = -4");
        Due.due("BAD", RoomsOfHours.BAD, -1);
        Due.due("NO", RoomsOfHours.NO, -2);
        Due.due("FULL", RoomsOfHours.FULL, -3);
        Due.due("NONE", RoomsOfHours.NONE, -4);
    }

    /** Two persons who have gone by a door that leads 24 hours back, with a thing put there; hours are 12 ticks. */
    private static RoomsOfHours low() {
        RoomsOfHours x = Due.laid("r1,1,0;r1,1,0;d0,1,1,24;p0,0;p0,0;t0,0,9;w0;");
        x.take(0, 0);
        x.go(0, 0);
        x.go(1, 0);
        x.put(0, 0);
        return x;
    }

    private static void belowZero() {
        Due.sentence("TICKS may be below 0: what is told of them is 100000 more");
        RoomsOfHours x = low();
        Due.due("person(0, 1)", x.person(0, 1), 99712);
        Due.due("thing(0, 4)", x.thing(0, 4), 99712);
        Due.due("meet(0, 1, 0): lower than at 0 in room 0", x.meet(0, 1, 0), 99712);
        Due.due("early(0, 1, 8, 0)", x.early(0, 1, 8, 0), 99712);
        Due.due("round(0, 2, 0)", x.round(0, 2, 0), 99724);
        Due.due("hour(0, 23, 0)", x.hour(0, 23, 0), 99988);
        Due.due("hour(0, 23, 1)", x.hour(0, 23, 1), 99988);
        Due.due("hour(0, 23, 2)", x.hour(0, 23, 2), 99988);
        Due.due("agreed(0, 1, 23)", x.agreed(0, 1, 23), 99988);
        Due.due("stay(0, 1)", x.stay(0, 1), 99724);
        Due.due("stay(0, 22)", x.stay(0, 22), 99988);
        Due.due("stay(0, 1) to 0", x.stay(0, 1), 100000);
        Due.due("go(1, 0)", x.go(1, 0), 100000);
        Due.due("go(1, 0)", x.go(1, 0), 99712);
        // As low as 40 doors lead.
        RoomsOfHours lowest = Due.laid("r1,1,0;r1,1,0;d0,1,1,24;d1,0,1,24;p0,0;w0;");
        for (int n = 1; n <= 40; n++) {
            Due.due("go(0, " + (n - 1) % 2 + ")", lowest.go(0, (n - 1) % 2), 100000 - 288 * n);
        }
        Due.due("person(0, 1)", lowest.person(0, 1), 88480);
        Due.due("early(0, 0, 8, 0)", lowest.early(0, 0, 8, 0), 88480 - 8 * 288);
        Due.due("round(0, 1, 0)", lowest.round(0, 1, 0), 88480 - 10 * 288 + 12);
        Due.due("hour(0, 0, 0)", lowest.hour(0, 0, 0), 88480);
    }

    /** TICKS -1 to -4 bear the numbers of BAD, NO, FULL and NONE, but are none of them. */
    private static void justBelowZero() {
        Due.sentence("TICKS may be below 0: -1 to -4 too, which are not BAD, NO, FULL, NONE");
        for (int tick = -1; tick >= -4; tick--) {
            // Hours of 4 ticks in room 0 and of 3 in room 1, 12 ticks back: how often he stays to be at that tick.
            int stays = tick == -1 || tick == -4 ? 2 : tick == -2 ? 1 : 0;
            int staysThere = (12 + tick - 4 * stays) / 3;
            RoomsOfHours x = Due.laid("r3,1,0;r4,1,0;d0,1,1,1;p0,0;p0,0;t0,1,9;w0;");
            x.take(0, 0);
            for (int i = 0; i < 2; i++) {
                for (int n = 0; n < stays; n++) {
                    x.stay(i, 1);
                }
                x.go(i, 0);
                for (int n = 0; n < staysThere; n++) {
                    x.stay(i, 1);
                }
            }
            String at = " at " + tick;
            int old = stays + staysThere;
            Due.due("person(0, 1)" + at, x.person(0, 1), 100000 + tick);
            Due.due("put(0, 0)" + at, x.put(0, 0), 0);
            Due.due("thing(0, 4)" + at, x.thing(0, 4), 100000 + tick);
            Due.due("worth(0, " + tick + ")", x.worth(0, tick), 9 - old);
            Due.due("worth(0, " + (tick - 1) + ")", x.worth(0, tick - 1), Due.NO);
            Due.due("early(0, 1, 8, 0)" + at, x.early(0, 1, 8, 0), 100000 + tick);
            Due.due("early(0, 0, 8, 0)" + at, x.early(0, 0, 8, 0), 100012 + tick);
            Due.due("round(0, 0, 0)" + at, x.round(0, 0, 0), 100000 + tick);
            Due.due("round(0, 2, 0)" + at, x.round(0, 2, 0), 100003 + tick);
            Due.due("round(0, 2, 1)" + at, x.round(0, 2, 1), 0);
            // Into room 0 and back, the hour of room 1 being the last.
            Due.due("round(0, 3, 0)" + at, x.round(0, 3, 0), 100007 + tick);
            Due.due("round(0, 3, 1)" + at, x.round(0, 3, 1), 1);
            Due.due("hour(0, " + old + ", 2)" + at, x.hour(0, old, 2), 100000 + tick);
            Due.due("agreed(0, 1, " + old + ")" + at, x.agreed(0, 1, old), 100000 + tick);
            Due.due("take(1, 0)" + at, x.take(1, 0), 1);
            x.go(1, 0);
            x.go(1, 0);
            Due.due("meet(1, 1, 0)" + at + ": back at the tick at which he went", x.meet(1, 1, 0), 100000 + tick);
            Due.due("ring(0)", x.ring(0), Due.NONE);
        }
    }

    private static void dayBelowZero() {
        Due.sentence("A DAY to a TICK below 0: 100000 more");
        // He is in room 1 at -288, and at 288 less wherever he is there; hours are 3 ticks.
        RoomsOfHours x = Due.laid("r4,1,0;r4,1,0;d0,1,1,24;p0,0;w0;");
        x.go(0, 0);
        int below = 0;
        for (int z = 0; z < 20; z++) {
            int hours = 0;
            int room = 1;
            for (int k = 0; k <= 11; k++) {
                long n = 7919L * z + 6151L * k + 1;
                int draw = (int) (n % 65521 * (n % 65521) % 65521);
                hours += draw % 3 == 0 ? draw / 4 % 3 + 1 : 0;
                room = draw % 3 == 0 ? room : 1 - room;
            }
            Due.due("day(" + z + ", 0, 0)", x.day(z, 0, 0), 100000 - 288 * room + 3 * hours);
            Due.due("day(" + z + ", 0, 1)", x.day(z, 0, 1), room);
            below += room;
        }
        Due.due("some of the days are below 0", below > 0 ? 1 : 0, 1);
    }

    private static void aboveZero() {
        Due.sentence("TICKS of 0 and above are told 100000 more, too");
        RoomsOfHours x = Due.laid("r1,4,0;p0,0;p0,0;");
        Due.due("person(0, 1)", x.person(0, 1), 100000);
        for (int n = 1; n <= 40; n++) {
            Due.due("stay(0, 24)", x.stay(0, 24), 100000 + 1152 * n);
        }
        Due.due("person(0, 1)", x.person(0, 1), 146080);
        Due.due("person(0, 2)", x.person(0, 2), 960);
        Due.due("hour(0, 23, 2)", x.hour(0, 23, 2), 146080 + 23 * 48);
    }

    private static void ofNone() {
        Due.sentence("100000 more, but of none");
        RoomsOfHours x = Due.laid("r1,1,0;r1,1,0;p0,0;p1,1;t0,0,9;");
        x.take(0, 0);
        Due.due("thing(0, 4)", x.thing(0, 4), -4);
        Due.due("meet(0, 1, 0)", x.meet(0, 1, 0), -4);
        Due.due("early(0, 1, 8, 0)", x.early(0, 1, 8, 0), -4);
        Due.due("round(0, 2, 0)", x.round(0, 2, 0), -4);
        Due.due("agreed(0, 1, 0)", x.agreed(0, 1, 0), -4);
    }

    private static void asTheyAre() {
        Due.sentence("ring: TICKS lower, as they are; room: TICKS of an hour");
        RoomsOfHours x = Due.laid("r1,1,0;r1,1,0;d0,1,1,1;d1,0,1,1;p0,0;w0;");
        Due.due("ring(2)", x.ring(2), 24);
        Due.due("room(0, 3)", x.room(0, 3), 12);
    }

    private static void callsOfAnObject() {
        Due.sentence("An object is used for at most 512 calls after it has been made");
        List<ToIntFunction<RoomsOfHours>> calls = new ArrayList<>();
        calls.add(x -> x.write(31));
        calls.add(x -> x.wipe());
        calls.add(x -> x.fault());
        calls.add(x -> x.lay());
        calls.add(x -> x.room(1, 3));
        calls.add(x -> x.clock(1, 3, 0));
        calls.add(x -> x.door(1, 2));
        calls.add(x -> x.person(1, 2));
        calls.add(x -> x.thing(0, 1));
        calls.add(x -> x.worth(0, 48));
        calls.add(x -> x.stay(0, 25));
        calls.add(x -> x.go(0, 1));
        calls.add(x -> x.take(0, 0));
        calls.add(x -> x.put(0, 0));
        calls.add(x -> x.undo());
        calls.add(x -> x.meet(0, 1, 0));
        calls.add(x -> x.early(0, 2, 8, 0));
        calls.add(x -> x.ring(0));
        calls.add(x -> x.even());
        calls.add(x -> x.round(0, 7, 0));
        calls.add(x -> x.hour(0, 5, 1));
        calls.add(x -> x.agreed(0, 1, 0));
        calls.add(x -> x.shelf(0, 5));
        calls.add(x -> x.seen(0, 0, 0));
        calls.add(x -> x.forget());
        calls.add(x -> x.paces(0));
        calls.add(x -> x.look(0, 0));
        calls.add(x -> x.mended(0));
        calls.add(x -> x.day(9999, 0, 0));
        calls.add(x -> x.keep());
        calls.add(x -> x.back());
        calls.add(x -> x.count(8));
        RoomsOfHours x = new RoomsOfHours();
        for (int n = 0; n < 512; n++) {
            ToIntFunction<RoomsOfHours> call = calls.get(n % 32);
            RoomsOfHours other = new RoomsOfHours();
            if (n % 32 == 30) {
                other.keep();
            }
            Due.due("call " + n % 32 + ", the " + (n + 1) + "th", call.applyAsInt(x), call.applyAsInt(other));
        }
    }

    private static void actsAndUndone() {
        Due.sentence("An object is used for at most 512 calls: as many acts as can be, undone as often");
        RoomsOfHours x = new RoomsOfHours();
        for (int n = 0; n < 512; n++) {
            int step = n % 80;
            boolean does = step < 40;
            int left = does ? step + 1 : 79 - step;
            Due.due("call " + (n + 1), does ? x.stay(0, 1) : x.undo(), does ? 100000 + 12 * left : left);
        }
        RoomsOfHours letters = new RoomsOfHours();
        for (int n = 0; n < 512; n++) {
            boolean wiped = n % 201 == 200;
            Due.due("call " + (n + 1), wiped ? letters.wipe() : letters.write('w'), wiped ? 200 : n % 201 + 1);
        }
        RoomsOfHours kept = new RoomsOfHours();
        for (int n = 0; n < 512; n++) {
            Due.due("call " + (n + 1), n % 4 < 2 ? kept.keep() : kept.back(), n % 4 < 2 ? n % 4 + 1 : 3 - n % 4);
        }
    }
}
