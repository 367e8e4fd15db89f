/** Promises 24 to 30: shelves, paces, clocks mended, days. */
public final class PacesTest {
    public static void main(String[] args) {
        shelf();
        seen();
        look();
        mended();
        day();
        Due.end();
    }

    private static void shelf() {
        RoomsOfHours x = Due.laid("r1,1,0;r4,1,0;r1,4,0;d0,2,0,0;p0,0;t1,0,5;t1,1,9;t1,2,8;t1,3,3;t2,1,2;");
        Due.due("shelf(0, 1) of a plain one", x.shelf(0, 1), 0);
        Due.due("shelf(1, 1) of tea", x.shelf(1, 1), 2);
        Due.due("shelf(1, 99) of tea cold everywhere", x.shelf(1, 99), 0);
        Due.due("shelf(2, 1) of soup", x.shelf(2, 1), 0);
        Due.due("shelf(2, 2) of soup", x.shelf(2, 2), 1);
        Due.due("shelf(2, 8) of soup", x.shelf(2, 8), 0);
        Due.due("shelf(3, 2) of bread", x.shelf(3, 2), 0);
        Due.due("shelf(3, 3) of bread", x.shelf(3, 3), 2);
        // At tick 12 the tea of room 2 is a quarter of an hour old, and three hours on a whole one there.
        Due.due("shelf(4, 3)", x.shelf(4, 3), 2);
        x.go(0, 0);
        x.take(0, 4);
        Due.due("shelf(4, 1) as it is with him", x.shelf(4, 1), 2);
        x.stay(0, 1);
        Due.due("shelf(4, 2) as old as it is, parts counted", x.shelf(4, 2), 2);
        Due.due("shelf(4, 3) as old as it is, parts counted", x.shelf(4, 3), 0);
        for (int bad : Due.WRONG) {
            Due.due("shelf(" + bad + ", 1)", x.shelf(bad, 1), Due.BAD);
            Due.due("shelf(0, " + bad + ")", x.shelf(0, bad), Due.BAD);
        }
        Due.due("shelf(5, 1)", x.shelf(5, 1), Due.BAD);
        Due.due("shelf(0, 0)", x.shelf(0, 0), Due.BAD);
        Due.due("shelf(0, 100)", x.shelf(0, 100), Due.BAD);
        RoomsOfHours y = Due.laid("r4,1,0;r1,1,0;p0,0;t0,1,20;");
        y.stay(0, 24);
        Due.due("shelf(0, 4): as old as when it was put, not as now", y.shelf(0, 4), 1);
    }

    private static void seen() {
        RoomsOfHours x = new RoomsOfHours();
        Due.due("seen(0, 0, 1)", x.seen(0, 0, 1), Due.BAD);
        Due.due("seen(0, 100, 1)", x.seen(0, 100, 1), Due.BAD);
        Due.due("seen(0, 1, -1)", x.seen(0, 1, -1), Due.BAD);
        Due.due("seen(0, 1, 401)", x.seen(0, 1, 401), Due.BAD);
        Due.due("seen(3, 1, 1)", x.seen(3, 1, 1), Due.BAD);
        Due.due("seen(-1, 1, 1)", x.seen(-1, 1, 1), Due.BAD);
        Due.due("forget()", x.forget(), 0);
        Due.due("paces(3)", x.paces(3), Due.BAD);
        Due.due("paces(-1)", x.paces(-1), Due.BAD);
        Due.due("paces(0)", x.paces(0), 65535);
        Due.due("seen(0, 1, 0)", x.seen(0, 1, 0), 1);
        // P less than Q: 1 by 2, 1 by 3, 1 by 4, 2 by 3, 2 by 4, 3 by 4.
        Due.due("paces(0)", x.paces(0), 1 << 1 | 1 << 2 | 1 << 3 | 1 << 6 | 1 << 7 | 1 << 11);
        Due.due("paces(1)", x.paces(1), 65535);
        Due.due("seen(0, 2, 1)", x.seen(0, 2, 1), 2);
        Due.due("paces(0)", x.paces(0), 1 << 1 | 1 << 6 | 1 << 7 | 1 << 11);
        Due.due("seen(1, 99, 396)", x.seen(1, 99, 396), 3);
        Due.due("paces(1)", x.paces(1), 1 << 12);
        Due.due("seen(2, 1, 400)", x.seen(2, 1, 400), 4);
        Due.due("paces(2)", x.paces(2), 0);
        for (int n = 5; n <= 8; n++) {
            Due.due("seen(2, 99, 0)", x.seen(2, 99, 0), n);
        }
        Due.due("seen(2, 99, 0) behind 8", x.seen(2, 99, 0), Due.FULL);
        Due.due("seen(3, 99, 0) behind 8", x.seen(3, 99, 0), Due.BAD);
        Due.due("count(5)", x.count(5), 8);
        Due.due("forget()", x.forget(), 8);
        Due.due("count(5)", x.count(5), 0);
        Due.due("paces(2)", x.paces(2), 65535);
    }

    private static void look() {
        RoomsOfHours x = new RoomsOfHours();
        // 1 by 1, 2 by 2, 3 by 3 and 4 by 4 never differ.
        Due.due("look(0, 1)", x.look(0, 1), 4);
        Due.due("look(0, 0)", x.look(0, 0), 3);
        x.seen(0, 1, 0);
        // 1 by 2 and 2 by 4 never differ; by 5 hours are shown 2, 1, 1, 3, 2, 3, by fewer three times the same.
        Due.due("look(0, 1)", x.look(0, 1), 2);
        Due.due("look(0, 0)", x.look(0, 0), 5);
        x.seen(0, 1, 1);
        Due.due("look(0, 0)", x.look(0, 0), Due.NONE);
        Due.due("look(0, 1)", x.look(0, 1), Due.NONE);
        x.seen(1, 99, 396);
        Due.due("look(1, 0)", x.look(1, 0), 1);
        Due.due("look(1, 1)", x.look(1, 1), 1);
        for (int bad : Due.WRONG) {
            Due.due("look(" + bad + ", 0)", x.look(bad, 0), Due.BAD);
            Due.due("look(0, " + bad + ")", x.look(0, bad), Due.BAD);
        }
        Due.due("look(3, 0)", x.look(3, 0), Due.BAD);
        Due.due("look(0, 2)", x.look(0, 2), Due.BAD);
    }

    private static void mended() {
        RoomsOfHours x = Due.laid("r2,1,0;r2,2,0;r1,4,0;d0,1,0,0;d1,2,0,0;p0,0;p0,0;p2,0;t2,1,9;t1,1,9;w1;");
        Due.due("mended(0) of nothing done", x.mended(0), 0);
        x.stay(0, 1);
        Due.due("mended(0)", x.mended(0), 1);
        x.go(1, 0);
        Due.due("mended(0) by going", x.mended(0), 3);
        x.stay(1, 5);
        Due.due("mended(1): 2 by 2 is as 1 by 1", x.mended(1), 0);
        x.stay(2, 1);
        Due.due("mended(2)", x.mended(2), 4);
        x.take(2, 0);
        x.put(2, 0);
        x.go(1, 1);
        x.stay(1, 1);
        Due.due("take(1, 0)", x.take(1, 0), 1);
        // If room 2 were mended the thing would be there sooner, and he at another tick.
        Due.due("mended(2)", x.mended(2), 6);
        Due.due("mended(0)", x.mended(0), 3);
        Due.due("mended(3)", x.mended(3), Due.BAD);
        for (int bad : Due.WRONG) {
            Due.due("mended(" + bad + ")", x.mended(bad), Due.BAD);
        }
        Due.due("person(1, 3): nothing changed", x.person(1, 3), 1);
        Due.due("person(1, 1): nothing changed", x.person(1, 1), 100000 + 6 + 60 + 12 + 48);
        // Fewer ticks than were: what was put later is not there yet, and is left out.
        RoomsOfHours y = Due.laid("r1,4,0;r1,1,0;d0,1,0,0;p0,0;p1,0;t1,0,9;");
        y.stay(1, 3);
        y.take(1, 0);
        y.put(1, 0);
        y.go(0, 0);
        y.take(0, 0);
        y.stay(0, 1);
        y.put(0, 0);
        Due.due("count(4)", y.count(4), 7);
        Due.due("mended(0)", y.mended(0), 1);
    }

    private static void day() {
        RoomsOfHours x = Due.laid("r1,1,0;r2,1,0;d0,1,0,3;d1,0,1,2;p0,0;p1,0;w2;");
        for (int z = 0; z < 10000; z += 303) {
            for (int i = 0; i < 2; i++) {
                RoomsOfHours y = Due.laid("r1,1,0;r2,1,0;d0,1,0,3;d1,0,1,2;p0,0;p1,0;w2;");
                for (int k = 0; k < 12; k++) {
                    java.math.BigInteger n = java.math.BigInteger.valueOf(7919L * z + 6151L * k + 1);
                    int draw = n.multiply(n).mod(java.math.BigInteger.valueOf(65521)).intValue();
                    if (draw % 3 == 0) {
                        y.stay(i, draw / 4 % 3 + 1);
                    } else {
                        y.go(i, draw / 8 % 2);
                    }
                }
                Due.due("day(" + z + ", " + i + ", 0)", x.day(z, i, 0), y.person(i, 1));
                Due.due("day(" + z + ", " + i + ", 1)", x.day(z, i, 1), y.person(i, 0));
            }
        }
        Due.due("count(4): a day is no act", x.count(4), 0);
        for (int bad : Due.WRONG) {
            Due.due("day(" + bad + ", 0, 0)", x.day(bad, 0, 0), Due.BAD);
            Due.due("day(0, " + bad + ", 0)", x.day(0, bad, 0), Due.BAD);
            Due.due("day(0, 0, " + bad + ")", x.day(0, 0, bad), Due.BAD);
        }
        Due.due("day(10000, 0, 0)", x.day(10000, 0, 0), Due.BAD);
        Due.due("day(9999, 0, 2)", x.day(9999, 0, 2), Due.BAD);
        RoomsOfHours one = Due.laid("r1,1,0;r1,1,0;d0,1,0,1;p0,0;");
        int draws = 0;
        int stays = 0;
        for (int k = 0; k < 12; k++) {
            long n = 6151L * k + 1;
            long draw = n * n % 65521;
            stays += draw % 3 == 0 ? (int) (draw / 4 % 3 + 1) : 0;
            draws += draw % 3 == 0 ? 0 : 1;
        }
        Due.due("day(0, 0, 0) by one door", one.day(0, 0, 0), 100000 + 12 * stays + 12 * draws + 12 * (draws % 2));
        Due.due("day(0, 0, 1) by one door", one.day(0, 0, 1), draws % 2);
        RoomsOfHours shut = Due.laid("r1,1,0;p0,0;");
        Due.due("day(0, 0, 1) without doors", shut.day(0, 0, 1), 0);
    }
}
