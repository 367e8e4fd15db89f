import java.util.function.IntUnaryOperator;

/** What the tests share: answers compared with those that are due, and houses laid from a text. */
final class Due {
    static final int BAD = RoomsOfHours.BAD, NO = RoomsOfHours.NO, FULL = RoomsOfHours.FULL, NONE = RoomsOfHours.NONE;
    /** No number of the document: wrong for every argument. */
    static final int[] WRONG = {-1, Integer.MIN_VALUE, Integer.MAX_VALUE, -100, 100000, 1 << 30, -(1 << 30)};
    private static String sentence = "";
    private static int wrong = 0;
    private static int asked = 0;

    private Due() { }

    /** The sentence of the document that the answers from here on are about: it is told with a wrong one. */
    static void sentence(String said) {
        sentence = "\"" + said + "\": ";
    }

    static void due(String call, int got, int want) {
        asked++;
        if (got != want) {
            wrong++;
            if (wrong <= 40) {
                System.out.println(sentence + call + " answered " + got + ", due is " + want);
            }
        }
    }

    /** A number goes from low to high: the last ones that are taken and the first ones that are not, on either side. */
    static void range(String call, int low, int high, IntUnaryOperator calling) {
        for (int taken : new int[] {low, high}) {
            due(call + " with " + taken + " is BAD", calling.applyAsInt(taken) == BAD ? 1 : 0, 0);
        }
        for (int not : new int[] {low - 1, high + 1, Integer.MIN_VALUE, Integer.MAX_VALUE}) {
            due(call + " with " + not, calling.applyAsInt(not), BAD);
        }
    }

    static void type(RoomsOfHours x, String text) {
        for (int n = 0; n < text.length(); n++) {
            x.write(text.charAt(n));
        }
    }

    static RoomsOfHours laid(String text) {
        RoomsOfHours x = new RoomsOfHours();
        type(x, text);
        due("fault() of " + text, x.fault(), NONE);
        x.lay();
        return x;
    }

    static int faultOf(String text) {
        RoomsOfHours x = new RoomsOfHours();
        type(x, text);
        return x.fault();
    }

    static void end() {
        System.out.println(asked + " answers, " + wrong + " not as due");
        if (wrong != 0) {
            System.exit(1);
        }
    }
}
