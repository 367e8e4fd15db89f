/** What the tests share: answers compared with those that are due, and houses laid from a text. */
final class Due {
    static final int BAD = RoomsOfHours.BAD, NO = RoomsOfHours.NO, FULL = RoomsOfHours.FULL, NONE = RoomsOfHours.NONE;
    /** No number of the document: wrong for every argument. */
    static final int[] WRONG = {-1, Integer.MIN_VALUE, Integer.MAX_VALUE, -100, 100000, 1 << 30, -(1 << 30)};
    private static int wrong = 0;
    private static int asked = 0;

    private Due() { }

    static void due(String call, int got, int want) {
        asked++;
        if (got != want) {
            wrong++;
            if (wrong <= 40) {
                System.out.println(call + " answered " + got + ", due is " + want);
            }
        }
    }

    static void type(RoomsOfHours x, String text) {
        for (int n = 0; n < text.length(); n++) {
            x.write(text.charAt(n));
        }
    }

    static RoomsOfHours laid(String text) {
        RoomsOfHours x = new RoomsOfHours();
        type(x, text);
        due("fault() of " + text, x.fault(), NONE);
        x.lay();
        return x;
    }

    static int faultOf(String text) {
        RoomsOfHours x = new RoomsOfHours();
        type(x, text);
        return x.fault();
    }

    static void end() {
        System.out.println(asked + " answers, " + wrong + " not as due");
        if (wrong != 0) {
            System.exit(1);
        }
    }
}
