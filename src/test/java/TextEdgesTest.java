/** "What it is", LAID, and promises 2 to 5: a test of its own for each boundary of a text and of its items. */
public final class TextEdgesTest {
    private static final String TWO = "r1,1,0;r4,4,23;";
    private static final int BEHIND_TWO = 15;
    private static final String SIX = "r1,1,0;r1,1,0;r1,1,0;r1,1,0;r1,1,0;r1,1,0;";
    /** As many of all as there may be, in 200 letters. */
    private static final String FULL_HOUSE = "r1,1,23;".repeat(6) + "d0,1,0,24;".repeat(8) + "p00,99;".repeat(4)
            + "t0,0,99;".repeat(5) + "w03;";

    public static void main(String[] args) {
        writeLetters();
        writeHowLong();
        lettersAtMost();
        wipe();
        emptyText();
        itemsOneBehindTheOther();
        itemLetters();
        figures();
        commas();
        semicolons();
        howManyNumbers();
        roomNumbers();
        roomsAtMost();
        doorNumbers();
        doorRoomsToldAhead();
        doorRoomsUnlike();
        doorsAtMost();
        personNumbers();
        personsAtMost();
        thingNumbers();
        thingsAtMost();
        crossingNumbers();
        crossingLastOrWithout();
        firstFault();
        faultChangesNothing();
        layNo();
        layAnew();
        layTakesAllOfTheHouse();
        Due.end();
    }

    private static void fault(String text, int place) {
        Due.due("fault() of " + text, Due.faultOf(text), place);
    }

    // ---- promises 2 and 3

    private static void writeLetters() {
        Due.sentence("A letter (32 to 126, as in ASCII)");
        for (int letter = -2; letter < 260; letter++) {
            RoomsOfHours x = new RoomsOfHours();
            boolean taken = letter >= 32 && letter <= 126;
            Due.due("write(" + letter + ")", x.write(letter), taken ? 1 : Due.BAD);
            Due.due("count(7) behind write(" + letter + ")", x.count(7), taken ? 1 : 0);
        }
        for (int letter : new int[] {Integer.MIN_VALUE, Integer.MAX_VALUE, 65536 + 114, 256 + 114, 114 - 65536}) {
            Due.due("write(" + letter + ")", new RoomsOfHours().write(letter), Due.BAD);
        }
    }

    private static void writeHowLong() {
        Due.sentence("A letter comes behind THE TEXT: how long it is");
        RoomsOfHours x = new RoomsOfHours();
        for (int n = 1; n <= 200; n++) {
            Due.due("write() of letter " + n, x.write('r'), n);
        }
        Due.sentence("write: FULL");
        Due.due("write('r') behind 200", x.write('r'), Due.FULL);
        Due.due("write(32) behind 200", x.write(32), Due.FULL);
        Due.due("write(126) behind 200", x.write(126), Due.FULL);
        Due.sentence("Of several the first: BAD ahead of FULL");
        Due.due("write(31) behind 200", x.write(31), Due.BAD);
        Due.due("write(127) behind 200", x.write(127), Due.BAD);
        Due.due("count(7)", x.count(7), 200);
    }

    private static void lettersAtMost() {
        Due.sentence("A TEXT is letters (200 at most)");
        Due.due("letters of the full house", FULL_HOUSE.length(), 200);
        RoomsOfHours x = Due.laid(FULL_HOUSE);
        int[] counts = {6, 8, 4, 5, 0, 0, 0, 200, 3};
        for (int what = 0; what < counts.length; what++) {
            Due.due("count(" + what + ") of the full house", x.count(what), counts[what]);
        }
        RoomsOfHours y = new RoomsOfHours();
        Due.type(y, FULL_HOUSE);
        Due.due("write(';') behind 200", y.write(';'), Due.FULL);
        Due.due("fault() behind FULL: no letter has come to the text", y.fault(), Due.NONE);
        Due.due("lay() behind FULL", y.lay(), 6);
        Due.sentence("FAULT in the last of 200 letters");
        fault("w1;".repeat(66) + "w", 198);
        fault("w1;".repeat(66) + "w1", 198);
        fault("w1;".repeat(65) + "w01;r", 199);
        fault("w1;".repeat(65) + "w01;;", 199);
    }

    private static void wipe() {
        Due.sentence("THE TEXT is empty: how long it was");
        RoomsOfHours x = new RoomsOfHours();
        Due.due("wipe() of none", x.wipe(), 0);
        x.write('x');
        Due.due("wipe() of one", x.wipe(), 1);
        Due.due("wipe() again", x.wipe(), 0);
        Due.due("count(7)", x.count(7), 0);
        Due.due("fault() behind wipe()", x.fault(), Due.NONE);
        Due.due("write('r') behind wipe()", x.write('r'), 1);
        Due.due("fault(): the x is gone", x.fault(), 0);
        RoomsOfHours full = new RoomsOfHours();
        Due.type(full, FULL_HOUSE);
        Due.due("wipe() of 200", full.wipe(), 200);
        Due.due("lay() behind wipe()", full.lay(), Due.NO);
        Due.due("write('r') behind wipe() of 200", full.write('r'), 1);
        RoomsOfHours house = Due.laid("r1,1,0;p0,5;w3;");
        house.stay(0, 1);
        house.wipe();
        Due.due("count(8): the house stays", house.count(8), 3);
        Due.due("count(4): acts stay", house.count(4), 1);
        // Of a longer text wiped, nothing is left behind a shorter one.
        RoomsOfHours shorter = new RoomsOfHours();
        Due.type(shorter, "r1,1,0;r1,1,0;p1,0;");
        shorter.wipe();
        Due.type(shorter, "r1,1,0;");
        Due.due("fault() of the shorter text", shorter.fault(), Due.NONE);
        Due.due("lay() of the shorter text, without a person", shorter.lay(), Due.NO);
    }

    // ---- items

    private static void emptyText() {
        Due.sentence("FAULT of an empty text: NONE");
        fault("", Due.NONE);
        Due.due("count(7) at first", new RoomsOfHours().count(7), 0);
    }

    private static void itemsOneBehindTheOther() {
        Due.sentence("ITEMS one behind the other");
        fault("w1;w1;", Due.NONE);
        fault(" w1;", 0);
        fault("w1; ", 3);
        fault("w1; w1;", 3);
        fault("w1;;w1;", 3);
        fault("w1;,w1;", 3);
        fault("w1;1;", 3);
        fault("w1,w1;", 0);
        fault("ww1;", 0);
        fault("r1,1,0;1,1,0;", 7);
    }

    private static void itemLetters() {
        Due.sentence("each a letter");
        for (char letter = 32; letter <= 126; letter++) {
            fault(TWO + letter + "1,1,1;", letter == 'r' || letter == 't' ? Due.NONE : BEHIND_TWO);
            fault(TWO + letter + "1,0,1,0;", letter == 'd' ? Due.NONE : BEHIND_TWO);
            fault(TWO + letter + "1,1;", letter == 'p' ? Due.NONE : BEHIND_TWO);
            fault(TWO + letter + "1;", letter == 'w' ? Due.NONE : BEHIND_TWO);
            fault(TWO + letter + ";", BEHIND_TWO);
            fault(TWO + letter, BEHIND_TWO);
        }
    }

    /** Items of each kind, their numbers apart. */
    private static final String[][] KINDS = {
        {"r", "1", "1", "0"}, {"d", "0", "1", "0", "0"}, {"p", "0", "0"}, {"t", "0", "0", "1"}, {"w", "1"}};

    /** The item with another number at one place. */
    private static String with(String[] kind, int place, String number) {
        StringBuilder item = new StringBuilder(kind[0]);
        for (int n = 1; n < kind.length; n++) {
            item.append(n == place ? number : kind[n]).append(n + 1 < kind.length ? ',' : ';');
        }
        return TWO + item;
    }

    private static void figures() {
        for (String[] kind : KINDS) {
            for (int n = 1; n < kind.length; n++) {
                Due.sentence("numbers (one or two figures), number " + n + " of " + kind[0]);
                fault(with(kind, n, kind[n]), Due.NONE);
                fault(with(kind, n, "0" + kind[n]), Due.NONE);
                fault(with(kind, n, "00" + kind[n]), BEHIND_TWO);
                fault(with(kind, n, "000" + kind[n]), BEHIND_TWO);
                fault(with(kind, n, ""), BEHIND_TWO);
                fault(with(kind, n, "-" + kind[n]), BEHIND_TWO);
                fault(with(kind, n, "+" + kind[n]), BEHIND_TWO);
                fault(with(kind, n, " " + kind[n]), BEHIND_TWO);
                fault(with(kind, n, kind[n] + " "), BEHIND_TWO);
                fault(with(kind, n, "0x"), BEHIND_TWO);
            }
        }
        Due.sentence("figures are 0 to 9");
        for (char figure = 32; figure <= 126; figure++) {
            boolean is = figure >= '0' && figure <= '9';
            fault("r1,1,0;p0," + figure + ";", is ? Due.NONE : 7);
            int due = is ? Due.NONE : figure == ';' ? 12 : 7;
            fault("r1,1,0;p0,1" + figure + ";", due);
        }
        for (int age = 0; age <= 99; age++) {
            Due.due("how old p0," + age + "; is", Due.laid("r1,1,0;p0," + age + ";").person(0, 2), age);
        }
    }

    private static void commas() {
        Due.sentence("parted by ,");
        for (char letter = 32; letter <= 126; letter++) {
            boolean is = letter == ',';
            fault("r1" + letter + "1,0;", is ? Due.NONE : 0);
            fault("r1,1" + letter + "0;", is ? Due.NONE : 0);
            fault(TWO + "d0" + letter + "1,0,0;", is ? Due.NONE : BEHIND_TWO);
            fault(TWO + "d0,1" + letter + "0,0;", is ? Due.NONE : BEHIND_TWO);
            fault(TWO + "d0,1,0" + letter + "0;", is ? Due.NONE : BEHIND_TWO);
            fault(TWO + "p0" + letter + "9;", is ? Due.NONE : BEHIND_TWO);
            fault(TWO + "t0" + letter + "0,9;", is ? Due.NONE : BEHIND_TWO);
            fault(TWO + "t0,0" + letter + "9;", is ? Due.NONE : BEHIND_TWO);
        }
    }

    private static void semicolons() {
        Due.sentence("and a ; behind the last one");
        for (String[] kind : KINDS) {
            String item = with(kind, 0, "");
            String open = item.substring(0, item.length() - 1);
            fault(open, BEHIND_TWO);
            for (char letter = 32; letter <= 126; letter++) {
                fault(open + letter + "w1;", letter == ';' ? Due.NONE : BEHIND_TWO);
            }
            fault(open + ";;", item.length());
        }
    }

    private static void howManyNumbers() {
        for (String[] kind : KINDS) {
            Due.sentence("how many numbers: " + kind[0]);
            String item = with(kind, 0, "");
            String open = item.substring(0, item.length() - 1);
            fault(item, Due.NONE);
            fault(open + ",0;", BEHIND_TWO);
            fault(open + ",;", BEHIND_TWO);
            int lastComma = open.lastIndexOf(',');
            fault(kind.length > 2 ? open.substring(0, lastComma) + ";" : TWO + "w;", BEHIND_TWO);
        }
    }

    private static void numbers(String front, String behind, int low, int high) {
        for (int n = 0; n <= 99; n++) {
            fault(TWO + front + n + behind, n >= low && n <= high ? Due.NONE : BEHIND_TWO);
        }
    }

    private static void roomNumbers() {
        Due.sentence("rP,Q,O: P 1 to 4");
        numbers("r", ",1,0;", 1, 4);
        Due.sentence("rP,Q,O: Q 1 to 4");
        numbers("r1,", ",0;", 1, 4);
        Due.sentence("rP,Q,O: O 0 to 23");
        numbers("r1,1,", ";", 0, 23);
    }

    private static void roomsAtMost() {
        Due.sentence("ROOMS: 6 at most, 0, 1, ..");
        fault(SIX, Due.NONE);
        fault(SIX + "r1,1,0;", 42);
        fault(SIX + "p0,0;r1,1,0;", 47);
        RoomsOfHours x = Due.laid("r1,1,10;r1,1,11;r1,1,12;r1,1,13;r1,1,14;r1,1,15;p5,0;d5,0,0,0;t5,0,1;");
        for (int r = 0; r < 6; r++) {
            Due.due("room(" + r + ", 2)", x.room(r, 2), 10 + r);
        }
        Due.due("room(6, 2)", x.room(6, 2), Due.BAD);
        for (int n = 1; n <= 6; n++) {
            RoomsOfHours y = new RoomsOfHours();
            Due.type(y, "r1,1,0;".repeat(n) + "p0,0;");
            Due.due("lay() of " + n + " rooms", y.lay(), n);
        }
    }

    private static void doorNumbers() {
        Due.sentence("dA,B,F,S: A a ROOM");
        numbers("d", ",1,0,0;", 0, 0);
        numbers("d", ",0,0,0;", 1, 1);
        Due.sentence("dA,B,F,S: B a ROOM");
        numbers("d0,", ",0,0;", 1, 1);
        numbers("d1,", ",0,0;", 0, 0);
        Due.sentence("dA,B,F,S: F 0 or 1");
        numbers("d0,1,", ",0;", 0, 1);
        Due.sentence("dA,B,F,S: S 0 to 24");
        numbers("d0,1,0,", ";", 0, 24);
        numbers("d0,1,1,", ";", 0, 24);
    }

    private static void doorRoomsToldAhead() {
        Due.sentence("a DOOR from ROOM A to ROOM B (told ahead)");
        fault("d0,1,0,0;r1,1,0;r1,1,0;", 0);
        fault("r1,1,0;d0,1,0,0;r1,1,0;", 7);
        fault("r1,1,0;d1,0,0,0;r1,1,0;", 7);
        fault("r1,1,0;r1,1,0;d0,1,0,0;", Due.NONE);
        fault(SIX + "d5,4,0,0;d4,5,0,0;", Due.NONE);
        fault(SIX + "d6,4,0,0;", 42);
        fault(SIX + "d4,6,0,0;", 42);
    }

    private static void doorRoomsUnlike() {
        Due.sentence("(told ahead, unlike)");
        for (int a = 0; a < 6; a++) {
            for (int b = 0; b < 6; b++) {
                fault(SIX + "d" + a + "," + b + ",0,0;", a == b ? 42 : Due.NONE);
            }
        }
    }

    private static void doorsAtMost() {
        Due.sentence("DOORS: 8 at most, 0, 1, ..");
        fault(TWO + "d0,1,0,0;".repeat(8), Due.NONE);
        fault(TWO + "d0,1,0,0;".repeat(9), BEHIND_TWO + 8 * 9);
        RoomsOfHours x = Due.laid(TWO + "d0,1,0,0;d0,1,0,1;d0,1,0,2;d0,1,0,3;d0,1,0,4;d0,1,0,5;d0,1,0,6;d0,1,0,7;p0,0;");
        for (int d = 0; d < 8; d++) {
            Due.due("door(" + d + ", 2)", x.door(d, 2), 24 + d);
        }
        Due.due("door(8, 2)", x.door(8, 2), Due.BAD);
    }

    private static void personNumbers() {
        Due.sentence("pR,A: R a ROOM (told ahead)");
        numbers("p", ",0;", 0, 1);
        fault("p0,0;r1,1,0;", 0);
        fault("r1,1,0;p1,0;r1,1,0;", 7);
        Due.sentence("pR,A: A 0 to 99");
        numbers("p0,", ";", 0, 99);
        fault(TWO + "p0,100;", BEHIND_TWO);
    }

    private static void personsAtMost() {
        Due.sentence("PERSONS: 4 at most, 0, 1, ..");
        fault(TWO + "p0,0;".repeat(4), Due.NONE);
        fault(TWO + "p0,0;".repeat(5), BEHIND_TWO + 4 * 5);
        RoomsOfHours x = Due.laid(TWO + "p0,40;p1,41;p0,42;p1,43;");
        for (int i = 0; i < 4; i++) {
            Due.due("person(" + i + ", 0)", x.person(i, 0), i % 2);
            Due.due("person(" + i + ", 2)", x.person(i, 2), 40 + i);
        }
        Due.due("person(4, 2)", x.person(4, 2), Due.BAD);
    }

    private static void thingNumbers() {
        Due.sentence("tR,K,N: R a ROOM (told ahead)");
        numbers("t", ",0,1;", 0, 1);
        fault("t0,0,1;r1,1,0;", 0);
        fault("r1,1,0;t1,0,1;r1,1,0;", 7);
        Due.sentence("tR,K,N: K 0 to 3");
        numbers("t0,", ",1;", 0, 3);
        Due.sentence("tR,K,N: N 1 to 99");
        for (int k = 0; k < 4; k++) {
            numbers("t0," + k + ",", ";", 1, 99);
            fault(TWO + "t0," + k + ",100;", BEHIND_TWO);
        }
    }

    private static void thingsAtMost() {
        Due.sentence("THINGS: 5 at most, 0, 1, ..");
        fault(TWO + "t0,0,1;".repeat(5), Due.NONE);
        fault(TWO + "t0,0,1;".repeat(6), BEHIND_TWO + 5 * 7);
        RoomsOfHours x = Due.laid(TWO + "t0,0,50;t1,1,51;t0,2,52;t1,3,53;t0,0,54;p0,0;");
        for (int t = 0; t < 5; t++) {
            Due.due("thing(" + t + ", 0)", x.thing(t, 0), t % 4);
            Due.due("thing(" + t + ", 1)", x.thing(t, 1), 50 + t);
            Due.due("thing(" + t + ", 2)", x.thing(t, 2), t % 2);
        }
        Due.due("thing(5, 0)", x.thing(5, 0), Due.BAD);
    }

    private static void crossingNumbers() {
        Due.sentence("wW: W (0 to 3)");
        numbers("w", ";", 0, 3);
        for (int w = 0; w <= 3; w++) {
            RoomsOfHours x = Due.laid("r1,1,0;r1,1,0;d0,1,0,0;p0,7;w" + w + ";");
            Due.due("count(8) of w" + w, x.count(8), w);
            Due.due("go(0, 0) of w" + w, x.go(0, 0), 100000 + 12 * w);
            Due.due("person(0, 2) of w" + w, x.person(0, 2), 7 + w);
        }
    }

    private static void crossingLastOrWithout() {
        Due.sentence("wW: 1 without; the last one");
        Due.due("count(8) without", Due.laid("r1,1,0;p0,0;").count(8), 1);
        Due.due("count(8) of w0;w3;", Due.laid("w0;r1,1,0;p0,0;w3;").count(8), 3);
        Due.due("count(8) of w3;w0;", Due.laid("w3;r1,1,0;w0;p0,0;").count(8), 0);
        Due.due("count(8) of w2; ahead of all", Due.laid("w2;r1,1,0;p0,0;").count(8), 2);
        RoomsOfHours x = Due.laid("r1,1,0;p0,0;w3;");
        x.wipe();
        Due.type(x, "r1,1,0;p0,0;");
        x.lay();
        Due.due("count(8) without, where there was one before", x.count(8), 1);
        fault("w3;w4;", 3);
    }

    private static void firstFault() {
        Due.sentence("FAULT: the place of the first letter of the first ITEM that is not so");
        fault("w4;", 0);
        fault("w1;w4;", 3);
        fault("w1;w4;w5;x", 3);
        fault("w1;x;w4;", 3);
        fault("r1,1,24;", 0);
        fault(TWO + "d0,1,0,25;", BEHIND_TWO);
        fault(TWO + "t0,0,0;p9,9;", BEHIND_TWO);
        // What is not so does not count as told.
        fault("r5,1,0;p0,0;", 0);
        fault("r1,1,0;r5,1,0;d0,1,0,0;", 7);
        fault(TWO + "p0,0;p", BEHIND_TWO + 5);
    }

    private static void faultChangesNothing() {
        Due.sentence("FAULT is but told");
        RoomsOfHours x = Due.laid("r2,1,3;p0,5;w3;");
        x.stay(0, 2);
        Due.type(x, "r1,1,0;p1,6;");
        Due.due("fault()", x.fault(), Due.NONE);
        Due.due("count(0)", x.count(0), 1);
        Due.due("count(2)", x.count(2), 1);
        Due.due("person(0, 1)", x.person(0, 1), 100012);
        x.write('x');
        Due.due("fault()", x.fault(), 27);
        Due.due("fault() again", x.fault(), 27);
        Due.due("count(7)", x.count(7), 28);
        Due.due("stay(0, 1) behind fault()", x.stay(0, 1), 100018);
        Due.due("count(8)", x.count(8), 3);
    }

    // ---- LAID

    private static void layNo() {
        Due.sentence("LAID is a TEXT without FAULT, of a PERSON at least (NO else)");
        String[] texts = {"", "r1,1,0;", "w1;", "x", "r1,1,0;p0,0;x", "r1,1,0;p0,0;p", "r1,1,0;p1,0;", "p0,0;r1,1,0;",
            "r1,1,0;p0,0", "r1,1,0;t0,0,1;", "r1,1,0;p0,0;p0,0;p0,0;p0,0;p0,0;"};
        for (String text : texts) {
            RoomsOfHours x = new RoomsOfHours();
            x.stay(0, 2);
            x.seen(0, 1, 1);
            x.keep();
            Due.type(x, text);
            Due.due("lay() of " + text, x.lay(), Due.NO);
            int[] counts = {3, 3, 2, 2, 1, 1, 1, text.length(), 1};
            for (int what = 0; what < counts.length; what++) {
                Due.due("count(" + what + ") behind lay() of " + text, x.count(what), counts[what]);
            }
            Due.due("person(0, 1) behind lay() of " + text, x.person(0, 1), 100024);
            Due.due("go(0, 0) behind lay() of " + text, x.go(0, 0), 100048);
        }
        RoomsOfHours x = new RoomsOfHours();
        Due.type(x, "r1,1,0;");
        Due.due("lay() of no person", x.lay(), Due.NO);
        Due.type(x, "p0,0;");
        Due.due("lay() of one person", x.lay(), 1);
    }

    private static void layAnew() {
        Due.sentence("lay: no ACTS, nothing SEEN, KEPT");
        RoomsOfHours x = Due.laid("r1,1,0;r1,1,0;d0,1,0,2;p0,5;t0,1,9;");
        x.take(0, 0);
        x.keep();
        x.go(0, 0);
        x.keep();
        x.seen(0, 1, 0);
        Due.due("lay() of the same text", x.lay(), 2);
        int[] counts = {2, 1, 1, 1, 0, 0, 0, 35, 1};
        for (int what = 0; what < counts.length; what++) {
            Due.due("count(" + what + ")", x.count(what), counts[what]);
        }
        int[] person = {0, 100000, 5, 0, 1};
        for (int what = 0; what < person.length; what++) {
            Due.due("person(0, " + what + ")", x.person(0, what), person[what]);
        }
        int[] thing = {1, 9, 0, Due.NONE, 100000, 0};
        for (int what = 0; what < thing.length; what++) {
            Due.due("thing(0, " + what + ")", x.thing(0, what), thing[what]);
        }
        Due.due("undo()", x.undo(), Due.NO);
        Due.due("back()", x.back(), Due.NO);
        Due.due("forget()", x.forget(), 0);
        Due.due("paces(0)", x.paces(0), 65535);
        Due.due("meet(0, 0, 0)", x.meet(0, 0, 0), Due.NONE);
        Due.due("keep() of none", x.keep(), 1);
        x.stay(0, 1);
        Due.due("back() to none", x.back(), 0);
        Due.due("count(4): none of the acts before", x.count(4), 0);
    }

    private static void layTakesAllOfTheHouse() {
        Due.sentence("LAID: the house is that of THE TEXT alone");
        RoomsOfHours x = Due.laid("r1,1,0;r2,1,0;d0,1,0,1;p0,1;p1,2;t0,1,1;t1,2,2;w0;");
        x.wipe();
        Due.type(x, "r3,4,5;p0,9;");
        Due.due("lay()", x.lay(), 1);
        int[] counts = {1, 0, 1, 0, 0, 0, 0, 12, 1};
        for (int what = 0; what < counts.length; what++) {
            Due.due("count(" + what + ")", x.count(what), counts[what]);
        }
        Due.due("room(0, 0)", x.room(0, 0), 3);
        Due.due("room(1, 0)", x.room(1, 0), Due.BAD);
        Due.due("door(0, 0)", x.door(0, 0), Due.BAD);
        Due.due("person(1, 0)", x.person(1, 0), Due.BAD);
        Due.due("thing(0, 0)", x.thing(0, 0), Due.BAD);
        x.wipe();
        Due.type(x, "r1,1,0;r2,1,0;d0,1,0,1;p0,1;p1,2;t0,1,1;t1,2,2;w0;");
        Due.due("lay() of the house before", x.lay(), 2);
        Due.due("thing(1, 1)", x.thing(1, 1), 2);
        Due.due("count(8)", x.count(8), 0);
    }
}
