import java.util.Arrays;
import java.util.Random;

/** Any arguments in any state: no call throws, and none that is refused or only asks changes anything. */
public final class AnyCallTest {
    private static final int CALLS = 32;
    private static final int[] CHANGING = {0, 1, 3, 10, 11, 12, 13, 14, 23, 24, 29, 30};
    private static final String LETTERS = "rdptw0123456789,;;,, xR-~";

    public static void main(String[] args) {
        for (int seed = 0; seed < 20000; seed++) {
            Random random = new Random(seed);
            String text = someText(random);
            text = text.substring(0, Math.min(text.length(), 200));
            int[][] calls = new int[1 + random.nextInt(120)][];
            for (int n = 0; n < calls.length; n++) {
                calls[n] = new int[] {random.nextInt(CALLS), someNumber(random), someNumber(random), someNumber(random),
                    someNumber(random)};
            }
            compare(text, calls, seed);
        }
        Due.end();
    }

    /** The last call against none: the calls that make the object and those that ask for its state are 512 at most. */
    private static void compare(String text, int[][] calls, int seed) {
        RoomsOfHours before = made(text, calls);
        RoomsOfHours after = made(text, calls);
        int[] last = calls[calls.length - 1];
        int answer = call(after, last);
        String told = "call " + Arrays.toString(last) + " of seed " + seed;
        Due.due(told + ": an answer that can be", answer >= -4 ? 1 : 0, 1);
        boolean changing = Arrays.binarySearch(CHANGING, last[0]) >= 0;
        if (answer < 0 || !changing) {
            Due.due(told + ": nothing changes", Arrays.equals(state(before), state(after)) ? 1 : 0, 1);
        }
    }

    private static RoomsOfHours made(String text, int[][] calls) {
        RoomsOfHours x = new RoomsOfHours();
        Due.type(x, text);
        x.lay();
        for (int n = 0; n + 1 < calls.length; n++) {
            call(x, calls[n]);
        }
        return x;
    }

    private static int call(RoomsOfHours x, int[] told) {
        return call(x, told[0], told[1], told[2], told[3], told[4]);
    }

    private static int call(RoomsOfHours x, int which, int a, int b, int c, int d) {
        switch (which) {
            case 0: return x.write(a);
            case 1: return x.wipe();
            case 2: return x.fault();
            case 3: return x.lay();
            case 4: return x.room(a, b);
            case 5: return x.clock(a, b, c);
            case 6: return x.door(a, b);
            case 7: return x.person(a, b);
            case 8: return x.thing(a, b);
            case 9: return x.worth(a, b);
            case 10: return x.stay(a, b);
            case 11: return x.go(a, b);
            case 12: return x.take(a, b);
            case 13: return x.put(a, b);
            case 14: return x.undo();
            case 15: return x.meet(a, b, c);
            case 16: return x.early(a, b, c, d);
            case 17: return x.ring(a);
            case 18: return x.even();
            case 19: return x.round(a, b, c);
            case 20: return x.hour(a, b, c);
            case 21: return x.agreed(a, b, c);
            case 22: return x.shelf(a, b);
            case 23: return x.seen(a, b, c);
            case 24: return x.forget();
            case 25: return x.paces(a);
            case 26: return x.look(a, b);
            case 27: return x.mended(a);
            case 28: return x.day(a, b, c);
            case 29: return x.keep();
            case 30: return x.back();
            default: return x.count(a);
        }
    }

    /** All that can be asked of the state without changing it. */
    private static int[] state(RoomsOfHours x) {
        int[] all = new int[150];
        int n = 0;
        for (int what = 0; what < 9; what++) {
            all[n++] = x.count(what);
        }
        all[n++] = x.fault();
        for (int r = 0; r < 6; r++) {
            for (int what = 0; what < 4; what++) {
                all[n++] = x.room(r, what);
            }
            all[n++] = x.paces(r);
        }
        for (int d = 0; d < 8; d++) {
            for (int what = 0; what < 3; what++) {
                all[n++] = x.door(d, what);
            }
        }
        for (int i = 0; i < 4; i++) {
            for (int what = 0; what < 5; what++) {
                all[n++] = x.person(i, what);
            }
        }
        for (int t = 0; t < 5; t++) {
            for (int what = 0; what < 6; what++) {
                all[n++] = x.thing(t, what);
            }
        }
        for (int i = 0; i < 4; i++) {
            all[n++] = x.meet(i, i, 0);
            all[n++] = x.meet(i, (i + 1) % 4, 0);
        }
        return all;
    }

    private static int someNumber(Random random) {
        switch (random.nextInt(12)) {
            case 0: return random.nextInt();
            case 1: return Due.WRONG[random.nextInt(Due.WRONG.length)];
            case 2: return random.nextInt(20001) - 10000;
            case 3: return random.nextInt(130);
            case 4: return random.nextInt(26);
            default: return random.nextInt(5);
        }
    }

    private static String someText(Random random) {
        StringBuilder text = new StringBuilder();
        int items = random.nextInt(30);
        for (int n = 0; n < items; n++) {
            int letter = n < 3 ? 0 : random.nextInt(5);
            int numbers = new int[] {3, 4, 2, 3, 1}[letter];
            text.append("rdptw".charAt(letter));
            for (int k = 0; k < numbers; k++) {
                text.append(letter == 0 ? 1 + random.nextInt(4) : random.nextInt(3)).append(k + 1 < numbers ? ',' : ';');
            }
            if (random.nextInt(60) == 0) {
                text.append(LETTERS.charAt(random.nextInt(LETTERS.length())));
            }
        }
        return text.toString();
    }
}
