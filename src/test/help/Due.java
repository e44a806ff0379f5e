/** What the tests of edges share: they tell the sentence that they stand for, and each answer that is not due. */
final class Due {
    static final int INVALID = -1000001;
    static final int IMPOSSIBLE = -1000002;
    static final int LIMIT = -1000003;
    static final int NONE = -1000004;
    /** Forces are told with this added. */
    static final int BILLION = 1000000000;
    static final int MOST_PLATES = 4;
    /** Out of each range, also where they are cut to fewer bits, doubled or added to. */
    static final int[] FAR_OFF = {Integer.MIN_VALUE, Integer.MIN_VALUE + 1, -1000001, -65536, -256, 256 + 50, 65536 + 50,
        1 << 30, (1 << 30) + 1, Integer.MAX_VALUE - 1, Integer.MAX_VALUE};

    private static String sentence = "";
    private static int sentences = 0;
    private static int wrong = 0;

    interface OfValue {
        long answer(int value);
    }

    interface OfPlate {
        long answer(SpringPlates x, int number);
    }

    private Due() {
    }

    /** The sentence of the document that the next answers are due by. */
    static void sentence(String words) {
        sentence = words;
        sentences++;
    }

    static void due(String what, long got, long want) {
        if (got != want) {
            wrong++;
            System.out.println("\"" + sentence + "\" " + what + ": answered " + got + ", due is " + want);
        }
    }

    static void end(String test) {
        System.out.println(test + ": " + sentences + " sentences, "
                + (wrong == 0 ? "all as due" : wrong + " answers are not as due"));
        if (wrong != 0) {
            System.exit(1);
        }
    }

    static SpringPlates plates(int plates) {
        SpringPlates x = new SpringPlates();
        for (int i = 0; i < plates; i++) {
            x.plate();
        }
        return x;
    }

    static SpringPlates withText(SpringPlates x, String text) {
        x.clearText();
        for (int i = 0; i < text.length(); i++) {
            x.type(text.charAt(i));
        }
        return x;
    }

    /** The least and the greatest value are taken, the next ones beyond are not, nor any far off. */
    static void range(String what, int least, int greatest, OfValue call) {
        takes(what, call.answer(least), least);
        takes(what, call.answer(greatest), greatest);
        due(what + " " + (least - 1), call.answer(least - 1), INVALID);
        due(what + " " + (greatest + 1), call.answer(greatest + 1), INVALID);
        for (int value : FAR_OFF) {
            due(what + " " + value, call.answer(value), INVALID);
        }
    }

    private static void takes(String what, long answer, int value) {
        due(what + " " + value + " is taken, as 1,", answer == INVALID ? 0 : 1, 1);
    }

    /** Among no plate to 4 plates, there are those from 0 to one less than there are. */
    static void plateNumbers(String what, OfPlate call) {
        numbers(what, 0, call);
    }

    /** Among no plate to 4 plates, there are the springs from 0 to as many as there are plates. */
    static void springNumbers(String what, OfPlate call) {
        numbers(what, 1, call);
    }

    private static void numbers(String what, int more, OfPlate call) {
        for (int plates = 0; plates <= MOST_PLATES; plates++) {
            String of = what + " of " + plates + " plates, number";
            for (int number = 0; number < plates + more; number++) {
                takes(of, call.answer(plates(plates), number), number);
            }
            for (int number = plates + more; number <= MOST_PLATES + 2; number++) {
                due(of + " " + number, call.answer(plates(plates), number), INVALID);
            }
            due(of + " -1", call.answer(plates(plates), -1), INVALID);
            for (int number : FAR_OFF) {
                due(of + " " + number, call.answer(plates(plates), number), INVALID);
            }
        }
    }

    static void duePlace(SpringPlates x, int plate, int upper, int lower) {
        due("place " + plate + ", upper part", x.place(plate, 0), upper);
        due("place " + plate + ", lower part", x.place(plate, 1), lower);
    }

    static void duePull(SpringPlates x, int spring, int upper, int lower) {
        due("pull " + spring + ", upper part", x.pull(spring, 0), BILLION + upper);
        due("pull " + spring + ", lower part", x.pull(spring, 1), lower);
    }

    static void duePush(SpringPlates x, int plate, int upper, int lower) {
        due("push " + plate + ", upper part", x.push(plate, 0), BILLION + upper);
        due("push " + plate + ", lower part", x.push(plate, 1), lower);
    }

    static void duePlates(SpringPlates x, int atLeft, int atRight, int touching, int atWall, int pushed) {
        int[] sets = {atLeft, atRight, touching, atWall, pushed};
        for (int what = 0; what < sets.length; what++) {
            due("plates " + what, x.plates(what), sets[what]);
        }
    }

    static void dueHardest(SpringPlates x, long plate, long side, long upper, long lower) {
        long[] answers = {plate, side, upper, lower};
        for (int what = 0; what < answers.length; what++) {
            due("hardest " + what, x.hardest(what), answers[what]);
        }
    }

    static int springOf(SpringPlates x, int plate, int side) {
        return 100 * x.plateOf(plate, 3 + 2 * side) + x.plateOf(plate, 4 + 2 * side);
    }
}
