import java.util.ArrayList;
import java.util.Arrays;
import java.util.List;
import java.util.function.Supplier;

/** Changes, the history and errors: what a change records, that an error changes nothing, and which one is told. */
public final class ChangesTest {
    private static final int INVALID = Due.INVALID;
    private static final int IMPOSSIBLE = Due.IMPOSSIBLE;
    private static final int LIMIT = Due.LIMIT;
    private static final int NONE = Due.NONE;
    private static final String SETTINGS = "w70;p;k0,2,20;f0,-9;l0,30;x0;r0,50;";

    interface Call {
        long on(SpringPlates x);
    }

    record Answer(String name, long due, Call call) {
    }

    private static void due(String what, long got, long want) {
        Due.due(what, got, want);
    }

    // ---- what objects tell

    /** All that is laid, and some of what follows from it, but for the history and the text. */
    private static long[] laid(SpringPlates x) {
        List<Long> answers = new ArrayList<>();
        for (int what = 0; what < 4; what++) {
            answers.add((long) x.count(what));
        }
        answers.add((long) x.pull(0, 0));
        answers.add((long) x.pull(0, 1));
        for (int plate = 0; plate < x.count(0); plate++) {
            for (int what = 0; what <= 6; what++) {
                answers.add((long) x.plateOf(plate, what));
            }
            answers.add((long) x.place(plate, 0));
            answers.add((long) x.place(plate, 1));
        }
        answers.add((long) x.plates(0));
        answers.add((long) x.plates(4));
        answers.add(x.hardest(2));
        return answers.stream().mapToLong(Long::longValue).toArray();
    }

    /** All that can be told of an object: what is laid, its text and its history; this takes the history away. */
    private static List<long[]> all(SpringPlates x) {
        List<long[]> all = new ArrayList<>();
        all.add(laid(x));
        all.add(new long[] {x.count(4), x.count(5), x.fault(0), x.fault(1), x.fault(2)});
        while (true) {
            int left = x.undo();
            all.add(new long[] {left});
            if (left < 0) {
                return all;
            }
            all.add(laid(x));
        }
    }

    private static void dueSame(String what, List<long[]> got, List<long[]> want) {
        due(what + ", as many answers", got.size(), want.size());
        for (int i = 0; i < Math.min(got.size(), want.size()); i++) {
            due(what + ", answers " + i + ", " + Arrays.toString(got.get(i)) + " for " + Arrays.toString(want.get(i))
                    + ", are the same, as 1,", Arrays.equals(got.get(i), want.get(i)) ? 1 : 0, 1);
        }
    }

    private static boolean sameLaid(SpringPlates x, long[] want) {
        return Arrays.equals(laid(x), want);
    }

    // ---- objects

    /** 4 plates, a full text with a fault and a full history. */
    private static SpringPlates full() {
        SpringPlates x = Due.plates(4);
        for (int spring = 0; spring <= 4; spring++) {
            x.spring(spring, 5 - spring, 9 * spring);
        }
        x.load(0, -99);
        x.load(2, 99);
        x.stop(0, 0, 5);
        x.stop(1, 1, 20);
        x.stop(2, 0, 21);
        x.stop(3, 1, 55);
        return Due.withText(x, "x0;".repeat(18) + "r2,20;");
    }

    /** One plate, and as many states in the history as are asked for. */
    private static SpringPlates withStates(int states) {
        SpringPlates x = new SpringPlates();
        x.plate();
        x.stop(0, 0, 12);
        x.undo();
        x.undo();
        x.load(0, 0);
        for (int i = 0; i < 4; i++) {
            x.plate();
            x.drop(0);
        }
        x.plate();
        x.stop(0, 0, 20);
        for (int i = 0; i < 4; i++) {
            x.load(0, 30 + i);
        }
        for (int i = 4; i > states; i--) {
            x.undo();
        }
        return x;
    }

    // ---- errors

    private static List<Answer> errorsOfFull() {
        List<Answer> errors = new ArrayList<>();
        errors.add(new Answer("width(9)", INVALID, x -> x.width(9)));
        errors.add(new Answer("width(100)", INVALID, x -> x.width(100)));
        errors.add(new Answer("width(54)", IMPOSSIBLE, x -> x.width(54)));
        errors.add(new Answer("plate()", LIMIT, x -> x.plate()));
        errors.add(new Answer("drop(-1)", INVALID, x -> x.drop(-1)));
        errors.add(new Answer("drop(4)", INVALID, x -> x.drop(4)));
        int[][] springs = {{-1, 3, 30}, {5, 3, 30}, {0, 0, 30}, {0, 10, 30}, {0, 3, -1}, {0, 3, 51}, {4, 0, 51}};
        for (int[] a : springs) {
            errors.add(new Answer("spring" + Arrays.toString(a), INVALID, x -> x.spring(a[0], a[1], a[2])));
        }
        int[][] loads = {{-1, 3}, {4, 3}, {0, -100}, {0, 100}};
        for (int[] a : loads) {
            errors.add(new Answer("load" + Arrays.toString(a), INVALID, x -> x.load(a[0], a[1])));
        }
        int[][] stops = {{-1, 0, 10}, {4, 0, 10}, {0, -1, 10}, {0, 2, 10}, {0, 0, -1}, {3, 1, 61}};
        for (int[] a : stops) {
            errors.add(new Answer("stop" + Arrays.toString(a), INVALID, x -> x.stop(a[0], a[1], a[2])));
        }
        int[][] crossing = {{0, 0, 21}, {0, 1, 4}, {1, 0, 21}, {1, 1, 4}, {2, 0, 56}, {2, 1, 20}, {3, 1, 20}, {3, 0, 56}};
        for (int[] a : crossing) {
            errors.add(new Answer("stop" + Arrays.toString(a), IMPOSSIBLE, x -> x.stop(a[0], a[1], a[2])));
        }
        int[][] unstops = {{-1, 0}, {4, 0}, {0, -1}, {0, 2}};
        for (int[] a : unstops) {
            errors.add(new Answer("unstop" + Arrays.toString(a), INVALID, x -> x.unstop(a[0], a[1])));
        }
        errors.add(new Answer("unstop(0, 1)", IMPOSSIBLE, x -> x.unstop(0, 1)));
        errors.add(new Answer("unstop(3, 0)", IMPOSSIBLE, x -> x.unstop(3, 0)));
        errors.add(new Answer("play()", IMPOSSIBLE, x -> x.play()));
        errors.add(new Answer("type(31)", INVALID, x -> x.type(31)));
        errors.add(new Answer("type(127)", INVALID, x -> x.type(127)));
        errors.add(new Answer("type(126)", LIMIT, x -> x.type(126)));
        return errors;
    }

    private static List<Answer> errorsOfQueries() {
        List<Answer> errors = new ArrayList<>();
        int[][] invalid = {{-1, 0}, {4, 0}, {0, -1}, {0, 7}};
        for (int[] a : invalid) {
            errors.add(new Answer("plateOf" + Arrays.toString(a), INVALID, x -> x.plateOf(a[0], a[1])));
            errors.add(new Answer("place" + Arrays.toString(a), INVALID, x -> x.place(a[0], a[1])));
            errors.add(new Answer("push" + Arrays.toString(a), INVALID, x -> x.push(a[0], a[1])));
        }
        errors.add(new Answer("plateOf(0, 2)", NONE, x -> x.plateOf(0, 2)));
        errors.add(new Answer("plateOf(3, 1)", NONE, x -> x.plateOf(3, 1)));
        errors.add(new Answer("pull(5, 0)", INVALID, x -> x.pull(5, 0)));
        errors.add(new Answer("pull(0, 2)", INVALID, x -> x.pull(0, 2)));
        errors.add(new Answer("plates(5)", INVALID, x -> x.plates(5)));
        int[][] without = {{-1, 0, 0, 0}, {4, 0, 0, 0}, {0, 2, 0, 0}, {0, 0, 4, 0}, {0, 0, 0, 2}};
        for (int[] a : without) {
            errors.add(new Answer("without" + Arrays.toString(a), INVALID, x -> x.without(a[0], a[1], a[2], a[3])));
        }
        errors.add(new Answer("without(0, 1, 0, 0)", IMPOSSIBLE, x -> x.without(0, 1, 0, 0)));
        errors.add(new Answer("leastLoad(4, 0)", INVALID, x -> x.leastLoad(4, 0)));
        errors.add(new Answer("leastLoad(0, 100)", INVALID, x -> x.leastLoad(0, 100)));
        errors.add(new Answer("leastLoad(3, 56)", NONE, x -> x.leastLoad(3, 56)));
        errors.add(new Answer("hardest(4)", INVALID, x -> x.hardest(4)));
        errors.add(new Answer("count(6)", INVALID, x -> x.count(6)));
        errors.add(new Answer("fault(3)", INVALID, x -> x.fault(3)));
        errors.add(new Answer("fault(2)", NONE, x -> x.fault(2)));
        return errors;
    }

    private static List<Answer> errorsOfEmpty() {
        List<Answer> errors = new ArrayList<>();
        errors.add(new Answer("undo()", IMPOSSIBLE, x -> x.undo()));
        errors.add(new Answer("drop(0)", INVALID, x -> x.drop(0)));
        errors.add(new Answer("spring(1, 2, 3)", INVALID, x -> x.spring(1, 2, 3)));
        errors.add(new Answer("load(0, 1)", INVALID, x -> x.load(0, 1)));
        errors.add(new Answer("stop(0, 0, 1)", INVALID, x -> x.stop(0, 0, 1)));
        errors.add(new Answer("unstop(0, 0)", INVALID, x -> x.unstop(0, 0)));
        errors.add(new Answer("hardest(0)", NONE, x -> x.hardest(0)));
        errors.add(new Answer("fault(0)", NONE, x -> x.fault(0)));
        errors.add(new Answer("width(0)", INVALID, x -> x.width(0)));
        errors.add(new Answer("type(0)", INVALID, x -> x.type(0)));
        return errors;
    }

    private static void dueAnswersWithoutAChange(Supplier<SpringPlates> make, List<Answer> answers) {
        List<long[]> untouched = all(make.get());
        for (Answer answer : answers) {
            SpringPlates x = make.get();
            due(answer.name, answer.call.on(x), answer.due);
            dueSame("after " + answer.name, all(x), untouched);
        }
    }

    private static void errorsChangeNothing() {
        Due.sentence("A call that returns an error changes nothing.");
        dueAnswersWithoutAChange(ChangesTest::full, errorsOfFull());
        dueAnswersWithoutAChange(ChangesTest::full, errorsOfQueries());
        dueAnswersWithoutAChange(SpringPlates::new, errorsOfEmpty());
    }

    private static void playWithAFaultChangesNothing() {
        Due.sentence("22: NOT_POSSIBLE if it has a fault. (A call that returns an error changes nothing.)");
        String[] endings = {"q", "p", "w9;", "k9,1,1;", "l0,80;", "r0,40;l0,41;", "w10;", "p;p;p;p;"};
        for (String ending : endings) {
            Supplier<SpringPlates> make = () -> Due.withText(withStates(3), SETTINGS + ending);
            dueAnswersWithoutAChange(make, List.of(new Answer("play of ..." + ending, IMPOSSIBLE, x -> x.play())));
        }
    }

    private static void questionsChangeNothing() {
        Due.sentence("The changes are the calls of width, plate, drop, spring, load, stop, unstop and play (no others)");
        List<Answer> questions = new ArrayList<>();
        questions.add(new Answer("plateOf(3, 2)", 55, x -> x.plateOf(3, 2)));
        questions.add(new Answer("place(0, 0)", 5, x -> x.place(0, 0)));
        questions.add(new Answer("pull(0, 1)", 1, x -> x.pull(0, 1)));
        questions.add(new Answer("push(0, 1) > 0", 1, x -> x.push(0, 1) > 0 ? 1 : 0));
        questions.add(new Answer("plates(0) & 1", 1, x -> x.plates(0) & 1));
        questions.add(new Answer("without(0, 0, 0, 0)", 0, x -> x.without(0, 0, 0, 0)));
        questions.add(new Answer("leastLoad(0, 5)", 901, x -> x.leastLoad(0, 5)));
        questions.add(new Answer("count(2)", 4, x -> x.count(2)));
        questions.add(new Answer("fault(0)", 54, x -> x.fault(0)));
        questions.add(new Answer("hardest(0) >= 0", 1, x -> x.hardest(0) >= 0 ? 1 : 0));
        dueAnswersWithoutAChange(ChangesTest::full, questions);
    }

    private static void questionsInAnyOrder() {
        Due.sentence("Tells where a plate would rest if; Finds the least load (and changes nothing by that, for other questions)");
        List<Call> questions = List.of(x -> x.without(0, 0, 1, 0), x -> x.without(2, 0, 2, 0), x -> x.leastLoad(1, 15),
                x -> x.leastLoad(2, 30), x -> x.leastLoad(3, 50), x -> x.hardest(0), x -> x.hardest(2), x -> x.place(0, 0),
                x -> x.place(2, 0), x -> x.push(1, 0), x -> x.plates(4), x -> x.pull(2, 0), x -> x.fault(0), x -> x.play(),
                x -> x.width(54), x -> x.stop(3, 1, 20), x -> x.plateOf(0, 1));
        long[] alone = new long[questions.size()];
        for (int i = 0; i < alone.length; i++) {
            alone[i] = questions.get(i).on(full());
        }
        for (int first = 0; first < alone.length; first++) {
            for (int then = 0; then < alone.length; then++) {
                SpringPlates x = full();
                questions.get(first).on(x);
                due("question " + then + " behind " + first, questions.get(then).on(x), alone[then]);
                due("question " + first + " again", questions.get(first).on(x), alone[first]);
            }
        }
    }

    private static void textIsNoChange() {
        Due.sentence("The changes are the calls of (not of type and clearText)");
        for (int states = 0; states <= 4; states++) {
            SpringPlates x = withStates(states);
            due("type", x.type('p'), 1);
            due("states", x.count(4), states);
            due("clearText", x.clearText(), 1);
            due("states", x.count(4), states);
        }
    }

    private static void whichErrorIsTold() {
        Due.sentence("INVALID_ARGUMENT is returned rather than NOT_POSSIBLE, NOT_POSSIBLE rather than LIMIT_REACHED, ... NOT_FOUND");
        SpringPlates x = full();
        due("width too small, with stops beyond", x.width(9), INVALID);
        due("stop beyond the width and the right stop", x.stop(0, 0, 61), INVALID);
        due("stop to the left of the wall and the left stop", x.stop(0, 1, -1), INVALID);
        due("unstop of no such side", x.unstop(0, 2), INVALID);
        due("unstop of no such plate", x.unstop(4, 1), INVALID);
        due("plateOf, no such plate and no stop", x.plateOf(4, 1), INVALID);
        due("place, no such plate and no such part", x.place(4, 3), INVALID);
        due("without, no stop and no such other", x.without(0, 1, 4, 0), INVALID);
        due("without, no stop and no such part", x.without(0, 1, 0, 2), INVALID);
        due("leastLoad, no such plate, and far beyond", x.leastLoad(4, 99), INVALID);
        due("leastLoad, beyond all", x.leastLoad(0, 100), INVALID);
        due("type, full and out of range", x.type(127), INVALID);
        due("type, full and below", x.type(31), INVALID);
        due("fault, reason 3, and no such what", x.fault(3), INVALID);
        SpringPlates y = new SpringPlates();
        due("hardest, no stop, and no such what", y.hardest(4), INVALID);
        due("hardest, no stop, and below 0", y.hardest(-1), INVALID);
        due("fault, none, and no such what", y.fault(3), INVALID);
        due("fault, none, and below 0", y.fault(-1), INVALID);
    }

    // ---- changes

    /** Each change on an object of withStates; the last three ones set what is so already, or do nothing. */
    private static List<Answer> changes() {
        List<Answer> changes = new ArrayList<>();
        changes.add(new Answer("width(99)", 60, x -> x.width(99)));
        changes.add(new Answer("plate()", 1, x -> x.plate()));
        changes.add(new Answer("drop(0)", 0, x -> x.drop(0)));
        changes.add(new Answer("spring(1, 9, 50)", 110, x -> x.spring(1, 9, 50)));
        changes.add(new Answer("load(0, -99) * 0", 0, x -> x.load(0, -99) * 0));
        changes.add(new Answer("stop(0, 1, 20)", -1, x -> x.stop(0, 1, 20)));
        changes.add(new Answer("stop(0, 0, 0)", 20, x -> x.stop(0, 0, 0)));
        changes.add(new Answer("unstop(0, 0)", 20, x -> x.unstop(0, 0)));
        changes.add(new Answer("play() of settings", 7, x -> Due.withText(x, SETTINGS).play()));
        changes.add(new Answer("width(60)", 60, x -> x.width(60)));
        changes.add(new Answer("stop(0, 0, 20)", 20, x -> x.stop(0, 0, 20)));
        changes.add(new Answer("play() of none", 0, x -> x.play()));
        return changes;
    }

    private static void changesAreRecorded() {
        Due.sentence("A history of at most 4 states is kept: each change records everything before it");
        for (Answer change : changes()) {
            for (int states = 0; states <= 4; states++) {
                SpringPlates x = withStates(states);
                long[] before = laid(x);
                String what = change.name + " with " + states + " states";
                due(what, change.call.on(x), change.due);
                int then = Math.min(states + 1, 4);
                due(what + ", count", x.count(4), then);
                due(what + ", undo", x.undo(), then - 1);
                due(what + ", undone, as 1,", sameLaid(x, before) ? 1 : 0, 1);
            }
        }
    }

    private static void theOldestIsDropped() {
        Due.sentence("if there are 5 states then, the oldest one is dropped");
        for (Answer change : changes()) {
            SpringPlates y = withStates(4);
            List<long[]> states = new ArrayList<>();
            for (int i = 0; i < 4; i++) {
                states.add(laid(y));
                y.undo();
            }
            SpringPlates x = withStates(4);
            change.call.on(x);
            for (int i = 0; i < 4; i++) {
                due("undo of " + change.name, x.undo(), 3 - i);
                due(change.name + ", state " + i + ", as 1,", sameLaid(x, states.get(i)) ? 1 : 0, 1);
            }
            due("the oldest one is gone", x.undo(), IMPOSSIBLE);
            due(change.name + ", it stays, as 1,", sameLaid(x, states.get(3)) ? 1 : 0, 1);
        }
    }

    private static void aFifthChange() {
        Due.sentence("A history of at most 4 states (the change behind that)");
        SpringPlates x = new SpringPlates();
        for (int i = 1; i <= 9; i++) {
            x.width(10 + i);
            due("states after " + i, x.count(4), Math.min(i, 4));
        }
        for (int i = 0; i < 4; i++) {
            due("left", x.undo(), 3 - i);
            due("width", x.count(1), 18 - i);
        }
        due("no more", x.undo(), IMPOSSIBLE);
        due("width", x.count(1), 15);
        for (int i = 1; i <= 4; i++) {
            x.width(30 + i);
            due("states again", x.count(4), i);
        }
        due("back", x.undo(), 3);
        due("width", x.count(1), 33);
    }

    private static void textIsNotRecorded() {
        Due.sentence("each change records everything before it but the text");
        SpringPlates x = Due.withText(new SpringPlates(), "p;");
        x.play();
        Due.withText(x, "w20;f0");
        due("undo", x.undo(), 0);
        due("the text stays", x.count(5), 6);
        due("its fault", x.fault(0), 4);
        due("its cause", x.fault(2), 2);
        x.clearText();
        x.width(20);
        x.undo();
        due("an empty one, too", x.count(5), 0);
    }

    // ---- promise 18

    private static void undoOfNone() {
        Due.sentence("18: NOT_POSSIBLE if it is empty");
        SpringPlates x = new SpringPlates();
        due("a new object", x.undo(), IMPOSSIBLE);
        x.width(9);
        due("after an error", x.undo(), IMPOSSIBLE);
        x.type('p');
        due("after a character", x.undo(), IMPOSSIBLE);
        x.width(10);
        due("after a change", x.undo(), 0);
        due("then not", x.undo(), IMPOSSIBLE);
        due("an undo is no change", x.count(1), 60);
    }

    private static void undoReturnsWhatIsLeft() {
        Due.sentence("18: Restores the latest state of the history, which is removed from it. Returns the number of states left");
        SpringPlates x = Due.plates(4);
        for (int left = 3; left >= 0; left--) {
            due("left", x.undo(), left);
            due("plates", x.count(0), left);
            due("states", x.count(4), left);
        }
        due("none", x.undo(), IMPOSSIBLE);
        due("no plate", x.count(0), 0);
    }

    private static void undoIsGone() {
        Due.sentence("18: (what was undone is in no history)");
        SpringPlates x = Due.plates(1);
        x.load(0, 10);
        x.load(0, 20);
        x.undo();
        x.load(0, 30);
        x.undo();
        due("load", x.plateOf(0, 0), 1010);
        x.undo();
        due("load", x.plateOf(0, 0), 1000);
        x.undo();
        due("no plate", x.count(0), 0);
        due("none", x.undo(), IMPOSSIBLE);
    }

    private static void undoRestoresEverything() {
        Due.sentence("18: Restores the latest state (everything of it)");
        SpringPlates x = full();
        long[] before = laid(x);
        Due.withText(x, "x0;x1;x2;x3;w99;k0,9,50;k4,1,1;f0,1;f1,2;f2,3;f3,4;r3,1;");
        due("play", x.play(), 12);
        due("it is another, as 0,", sameLaid(x, before) ? 1 : 0, 0);
        due("undo", x.undo(), 3);
        due("restored, as 1,", sameLaid(x, before) ? 1 : 0, 1);
        x.drop(0);
        x.drop(0);
        x.drop(0);
        x.drop(0);
        for (int i = 3; i >= 0; i--) {
            due("undo", x.undo(), i);
        }
        due("restored, as 1,", sameLaid(x, before) ? 1 : 0, 1);
    }

    public static void main(String[] args) {
        errorsChangeNothing();
        playWithAFaultChangesNothing();
        questionsChangeNothing();
        questionsInAnyOrder();
        textIsNoChange();
        whichErrorIsTold();
        changesAreRecorded();
        theOldestIsDropped();
        aFifthChange();
        textIsNotRecorded();
        undoOfNone();
        undoReturnsWhatIsLeft();
        undoIsGone();
        undoRestoresEverything();
        Due.end("changes and errors");
    }
}
