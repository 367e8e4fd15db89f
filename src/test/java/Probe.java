import java.util.Arrays;
import java.util.function.Consumer;
import java.util.function.Supplier;
import java.util.function.ToIntFunction;

/**
 * Whether two objects are in the same state, as far as answers tell. What the answers of some calls hide (acts, what is
 * kept, the letters of the text) is asked by calls that change the object, so that each probe is of objects of its own,
 * and stays within the 512 calls of an object if 260 or fewer have made it.
 */
final class Probe {
    private static final int PROBES = 7;
    private int[] answers = new int[0];
    private final RoomsOfHours x;

    private Probe(RoomsOfHours x) {
        this.x = x;
    }

    /** That an object answers the same when the call has been made on it as when not. */
    static void nothingChanges(String call, Supplier<RoomsOfHours> maker, Consumer<RoomsOfHours> calling) {
        for (int which = 0; which < PROBES; which++) {
            RoomsOfHours called = maker.get();
            calling.accept(called);
            boolean same = Arrays.equals(answers(which, called), answers(which, maker.get()));
            Due.due("nothing changes by " + call + ", probe " + which, same ? 1 : 0, 1);
        }
    }

    /** That a call is refused by that answer, and that nothing changes then. */
    static void refused(String call, Supplier<RoomsOfHours> maker, ToIntFunction<RoomsOfHours> calling, int due) {
        Due.due(call, calling.applyAsInt(maker.get()), due);
        nothingChanges(call, maker, calling::applyAsInt);
    }

    private static int[] answers(int which, RoomsOfHours x) {
        Probe probe = new Probe(x);
        switch (which) {
            case 0: probe.askHouse(); break;
            case 1: probe.askCourse(); break;
            case 2: probe.askWays(); break;
            case 3: probe.undoAll(); break;
            case 4: probe.backAll(); break;
            case 5: probe.layText(); break;
            default: probe.fill(); break;
        }
        return probe.answers;
    }

    private void note(int answer) {
        answers = Arrays.copyOf(answers, answers.length + 1);
        answers[answers.length - 1] = answer;
    }

    private void askHouse() {
        for (int what = 0; what < 9; what++) {
            note(x.count(what));
        }
        for (int n = 0; n < 8; n++) {
            for (int what = 0; what < 4; what++) {
                note(x.room(n, what));
                note(x.door(n, what));
            }
            note(x.clock(n, 77, 0));
            note(x.paces(n));
            note(x.look(n, 0));
            note(x.look(n, 1));
        }
        note(x.fault());
    }

    private void askCourse() {
        for (int i = 0; i < 4; i++) {
            for (int what = 0; what < 5; what++) {
                note(x.person(i, what));
            }
            for (int j = 0; j <= i; j++) {
                note(x.meet(i, j, 0));
                note(x.meet(i, j, 1));
                note(x.agreed(i, j, 5));
            }
            note(x.hour(i, 5, 2));
        }
        for (int t = 0; t < 5; t++) {
            for (int what = 0; what < 6; what++) {
                note(x.thing(t, what));
            }
            note(x.worth(t, 100));
            note(x.shelf(t, 3));
        }
    }

    private void askWays() {
        for (int i = 0; i < 4; i++) {
            for (int r = 0; r < 6; r++) {
                note(x.early(i, r, 8, 0));
                note(x.early(i, r, 8, 2));
            }
            note(x.round(i, 3, 0));
            note(x.day(77, i, 0));
        }
        for (int r = 0; r < 6; r++) {
            note(x.mended(r));
        }
        note(x.ring(2));
        note(x.even());
    }

    private void undoAll() {
        for (int left = x.undo(); left >= 0; left = x.undo()) {
            note(left);
            note(x.person(0, 1));
            note(x.thing(0, 3));
        }
        askCourse();
    }

    private void backAll() {
        for (int left = x.back(); left >= 0; left = x.back()) {
            note(left);
            note(x.count(4));
            askCourse();
            note(x.undo());
            note(x.person(1, 1));
        }
    }

    private void layText() {
        note(x.fault());
        note(x.lay());
        askHouse();
        askCourse();
    }

    /** To where it is full: how much could still come. */
    private void fill() {
        for (int n = 0; n < 9; n++) {
            note(x.seen(0, 1, 1));
        }
        for (int n = 0; n < 3; n++) {
            note(x.keep());
        }
        for (int n = 0; n < 41; n++) {
            note(x.stay(0, 1));
        }
        note(x.write('w'));
        note(x.fault());
        note(x.forget());
        note(x.wipe());
    }
}
