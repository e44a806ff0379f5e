/** At least one test for each promise of the document: ordinary inputs, the edges that it names, and wrong inputs. */
public final class PromisesTest {
    static final int INVALID = SpringPlates.INVALID_ARGUMENT;
    static final int IMPOSSIBLE = SpringPlates.NOT_POSSIBLE;
    static final int LIMIT = SpringPlates.LIMIT_REACHED;
    static final int NONE = SpringPlates.NOT_FOUND;
    /** Forces are told with this added. */
    static final int BILLION = 1000000000;
    static final int[] FAR_OFF = {Integer.MIN_VALUE, -1000001, 1000, Integer.MAX_VALUE};

    static int wrong = 0;

    static void due(String what, long got, long want) {
        if (got != want) {
            wrong++;
            System.out.println(what + ": answered " + got + ", due is " + want);
        }
    }

    static SpringPlates withPlates(int plates) {
        SpringPlates x = new SpringPlates();
        for (int i = 0; i < plates; i++) {
            x.plate();
        }
        return x;
    }

    static SpringPlates withText(SpringPlates x, String text) {
        x.clearText();
        for (int i = 0; i < text.length(); i++) {
            x.type(text.charAt(i));
        }
        return x;
    }

    /** A fraction, and with a shift a force. */
    static void dueParts(String what, long upper, long lower, long wantUpper, long wantLower) {
        due(what + ", upper part", upper, wantUpper);
        due(what + ", lower part", lower, wantLower);
    }

    static void duePlace(SpringPlates x, int plate, int upper, int lower) {
        dueParts("place " + plate, x.place(plate, 0), x.place(plate, 1), upper, lower);
    }

    static void duePush(SpringPlates x, int plate, int upper, int lower) {
        dueParts("push " + plate, x.push(plate, 0), x.push(plate, 1), BILLION + upper, lower);
    }

    static void duePull(SpringPlates x, int spring, int upper, int lower) {
        dueParts("pull " + spring, x.pull(spring, 0), x.pull(spring, 1), BILLION + upper, lower);
    }

    static void constants() {
        due("INVALID_ARGUMENT", INVALID, -1000001);
        due("NOT_POSSIBLE", IMPOSSIBLE, -1000002);
        due("LIMIT_REACHED", LIMIT, -1000003);
        due("NOT_FOUND", NONE, -1000004);
    }

    static void promise1NewObject() {
        SpringPlates x = new SpringPlates();
        int[] counts = {0, 60, 0, 1000, 0, 0};
        for (int what = 0; what < 6; what++) {
            due("1: count " + what, x.count(what), counts[what]);
        }
        duePull(x, 0, 50, 1);
        for (int what = 0; what < 5; what++) {
            due("1: plates " + what, x.plates(what), 0);
        }
        due("1: no plate", x.place(0, 0), INVALID);
        due("1: one spring", x.pull(1, 0), INVALID);
        due("1: its spring", x.spring(0, 1, 10), 110);
        due("1: no fault", x.fault(0), NONE);
        due("1: no history", new SpringPlates().undo(), IMPOSSIBLE);
    }

    static void promise2Width() {
        SpringPlates x = withPlates(1);
        due("2: narrowest", x.width(10), 60);
        due("2: widest", x.width(99), 10);
        due("2: too narrow", x.width(9), INVALID);
        due("2: too wide", x.width(100), INVALID);
        for (int width : FAR_OFF) {
            due("2: width " + width, x.width(width), INVALID);
        }
        due("2: stays", x.count(1), 99);
        duePlace(x, 0, 99, 2);
        for (int side = 0; side < 2; side++) {
            SpringPlates y = withPlates(2);
            y.stop(1, side, 40);
            due("2: stop beyond, side " + side, y.width(39), IMPOSSIBLE);
            due("2: no change by an error", y.count(4), 3);
            due("2: stop at the wall", y.width(40), 60);
            due("2: out of range, and a stop beyond", y.width(9), INVALID);
            y.unstop(1, side);
            due("2: no stop any more", y.width(39), 40);
        }
    }

    static void promise3Plate() {
        SpringPlates x = new SpringPlates();
        x.spring(0, 3, 7);
        due("3: first", x.plate(), 0);
        due("3: old spring to the left", x.plateOf(0, 3) * 100 + x.plateOf(0, 4), 307);
        due("3: new spring to the right", x.plateOf(0, 5) * 100 + x.plateOf(0, 6), 110);
        x.spring(1, 4, 8);
        for (int plate = 1; plate < 4; plate++) {
            due("3: next", x.plate(), plate);
        }
        due("3: left of the second", x.plateOf(1, 3) * 100 + x.plateOf(1, 4), 408);
        due("3: new one has no load", x.plateOf(3, 0), 1000);
        due("3: nor stops", x.plateOf(3, 1), NONE);
        due("3: nor a right one", x.plateOf(3, 2), NONE);
        x.undo();
        x.load(2, 5);
        x.plate();
        due("3: history before", x.count(4), 4);
        due("3: full", x.plate(), LIMIT);
        due("3: still 4", x.count(0), 4);
        x.undo();
        due("3: an error records nothing", x.count(0), 3);
    }

    static void promise4Drop() {
        SpringPlates x = withPlates(4);
        for (int k = 0; k < 5; k++) {
            x.spring(k, k + 1, 10 * k);
        }
        for (int p = 0; p < 4; p++) {
            x.load(p, 10 + p);
            x.stop(p, 0, 5 + p);
            x.stop(p, 1, 30 + p);
        }
        due("4: drops one between", x.drop(1), 3);
        int[] from = {0, 2, 3};
        int[] leftSprings = {100, 210, 430};
        int[] rightSprings = {210, 430, 540};
        for (int p = 0; p < 3; p++) {
            due("4: load", x.plateOf(p, 0), 1010 + from[p]);
            due("4: left stop", x.plateOf(p, 1), 5 + from[p]);
            due("4: right stop", x.plateOf(p, 2), 30 + from[p]);
            due("4: left spring", x.plateOf(p, 3) * 100 + x.plateOf(p, 4), leftSprings[p]);
            due("4: right spring", x.plateOf(p, 5) * 100 + x.plateOf(p, 6), rightSprings[p]);
        }
        due("4: no such plate", x.drop(3), INVALID);
        due("4: below 0", x.drop(-1), INVALID);
        due("4: far off", x.drop(Integer.MAX_VALUE), INVALID);
        due("4: drops the last", x.drop(2), 2);
        due("4: spring to the right of it is gone", x.plateOf(1, 5), 4);
        due("4: adds one again", x.plate(), 2);
        due("4: without the old load", x.plateOf(2, 0), 1000);
        due("4: without the old stop", x.plateOf(2, 1), NONE);
        due("4: with a new spring", x.plateOf(2, 5) * 100 + x.plateOf(2, 6), 110);
        due("4: first", x.drop(0), 2);
        due("4: then", x.drop(0), 1);
        due("4: to none", x.drop(0), 0);
        due("4: left wall's spring stays", x.spring(0, 1, 10), 100);
        due("4: none to drop", x.drop(0), INVALID);
    }

    static void promise5Spring() {
        SpringPlates x = withPlates(1);
        due("5: as it was", x.spring(1, 9, 50), 110);
        due("5: least", x.spring(1, 1, 0), 950);
        due("5: then", x.spring(1, 2, 3), 100);
        due("5: other one stays", x.spring(0, 1, 10), 110);
        due("5: no such spring", x.spring(2, 1, 1), INVALID);
        due("5: below 0", x.spring(-1, 1, 1), INVALID);
        due("5: too weak", x.spring(0, 0, 1), INVALID);
        due("5: too strong", x.spring(0, 10, 1), INVALID);
        due("5: too short", x.spring(0, 1, -1), INVALID);
        due("5: too long", x.spring(0, 1, 51), INVALID);
        for (int value : FAR_OFF) {
            due("5: spring " + value, x.spring(value, 1, 1), INVALID);
            due("5: strength " + value, x.spring(0, value, 1), INVALID);
            due("5: length " + value, x.spring(0, 1, value), INVALID);
        }
        due("5: errors change nothing", x.spring(0, 1, 10), 110);
        due("5: history", x.count(4), 4);
    }

    static void promise6Load() {
        SpringPlates x = withPlates(2);
        due("6: was 0", x.load(1, 99), 1000);
        due("6: greatest", x.load(1, -99), 1099);
        due("6: least", x.load(1, 5), 901);
        due("6: other one", x.load(0, 0), 1000);
        due("6: no such plate", x.load(2, 0), INVALID);
        due("6: below 0", x.load(-1, 0), INVALID);
        due("6: too great", x.load(1, 100), INVALID);
        due("6: too small", x.load(1, -100), INVALID);
        for (int value : FAR_OFF) {
            due("6: plate " + value, x.load(value, 0), INVALID);
            due("6: load " + value, x.load(0, value), INVALID);
        }
        due("6: stays", x.plateOf(1, 0), 1005);
    }

    static void promise7Stop() {
        SpringPlates x = withPlates(3);
        due("7: at the left wall", x.stop(0, 0, 0), -1);
        due("7: at the right wall", x.stop(2, 1, 60), -1);
        due("7: was at 0", x.stop(0, 0, 20), 0);
        due("7: left of its left one", x.stop(0, 1, 19), IMPOSSIBLE);
        due("7: left of one of another", x.stop(2, 1, 19), IMPOSSIBLE);
        due("7: at it", x.stop(2, 1, 20), 60);
        due("7: right of one of another", x.stop(1, 0, 21), IMPOSSIBLE);
        due("7: right of its right one", x.stop(2, 0, 21), IMPOSSIBLE);
        due("7: errors change nothing", x.plateOf(1, 1), NONE);
        due("7: one behind may be held to the right", x.stop(0, 1, 40), -1);
        due("7: and one ahead to the left", x.stop(1, 0, 10), -1);
        due("7: takes the place of the old one", x.stop(2, 1, 50), 20);
        due("7: of the same place", x.stop(2, 1, 50), 50);
        due("7: is a change, too", x.undo(), 3);
        due("7: no such plate", x.stop(3, 0, 0), INVALID);
        due("7: no such side", x.stop(0, 2, 0), INVALID);
        due("7: side below 0", x.stop(0, -1, 0), INVALID);
        due("7: place below 0", x.stop(0, 0, -1), INVALID);
        due("7: beyond the width", x.stop(2, 0, 61), INVALID);
        for (int value : FAR_OFF) {
            due("7: plate " + value, x.stop(value, 0, 30), INVALID);
            due("7: side " + value, x.stop(0, value, 30), INVALID);
            due("7: place " + value, x.stop(0, 0, value), INVALID);
        }
    }

    static void promise8Unstop() {
        SpringPlates x = withPlates(2);
        x.stop(1, 0, 12);
        x.stop(1, 1, 50);
        due("8: left", x.unstop(1, 0), 12);
        due("8: is gone", x.unstop(1, 0), IMPOSSIBLE);
        due("8: right stays", x.plateOf(1, 2), 50);
        due("8: right", x.unstop(1, 1), 50);
        due("8: none", x.unstop(0, 1), IMPOSSIBLE);
        due("8: no such plate", x.unstop(2, 0), INVALID);
        due("8: plate below 0", x.unstop(-1, 0), INVALID);
        due("8: no such side", x.unstop(0, 2), INVALID);
        due("8: side below 0", x.unstop(1, -1), INVALID);
        for (int value : FAR_OFF) {
            due("8: plate " + value, x.unstop(value, 0), INVALID);
            due("8: side " + value, x.unstop(0, value), INVALID);
        }
        due("8: at 0", x.stop(0, 0, 0), -1);
        due("8: tells 0", x.unstop(0, 0), 0);
    }

    static void promise9PlateOf() {
        SpringPlates x = withPlates(2);
        x.load(1, -7);
        x.stop(1, 0, 0);
        x.stop(1, 1, 33);
        x.spring(1, 4, 41);
        x.spring(2, 5, 42);
        int[] want = {993, 0, 33, 4, 41, 5, 42};
        for (int what = 0; what < 7; what++) {
            due("9: what " + what, x.plateOf(1, what), want[what]);
        }
        due("9: no left stop", x.plateOf(0, 1), NONE);
        due("9: no right stop", x.plateOf(0, 2), NONE);
        due("9: shares its spring", x.plateOf(0, 5), 4);
        due("9: no such plate", x.plateOf(2, 0), INVALID);
        due("9: plate below 0", x.plateOf(-1, 1), INVALID);
        due("9: what below 0", x.plateOf(0, -1), INVALID);
        due("9: what too great", x.plateOf(0, 7), INVALID);
        for (int value : FAR_OFF) {
            due("9: plate " + value, x.plateOf(value, 0), INVALID);
            due("9: what " + value, x.plateOf(0, value), INVALID);
        }
    }

    static void promise10Place() {
        SpringPlates x = withPlates(2);
        duePlace(x, 0, 20, 1);
        duePlace(x, 1, 40, 1);
        x.load(0, 1);
        duePlace(x, 0, 62, 3);
        due("10: rounded down", x.place(0, 2), 20);
        due("10: of the other", x.place(1, 2), 40);
        x.load(0, 2);
        due("10: still down", x.place(0, 2), 21);
        x.load(0, -99);
        duePlace(x, 0, 0, 1);
        due("10: at the wall", x.place(0, 2), 0);
        x.load(1, 99);
        duePlace(x, 1, 60, 1);
        due("10: at the right wall", x.place(1, 2), 60);
        x.load(0, 99);
        x.load(1, -99);
        duePlace(x, 0, 30, 1);
        duePlace(x, 1, 30, 1);
        x.stop(0, 1, 13);
        duePlace(x, 0, 13, 1);
        due("10: no such plate", x.place(2, 0), INVALID);
        due("10: plate below 0", x.place(-1, 2), INVALID);
        due("10: part below 0", x.place(0, -1), INVALID);
        due("10: no such part", x.place(0, 3), INVALID);
        for (int value : FAR_OFF) {
            due("10: plate " + value, x.place(value, 0), INVALID);
            due("10: part " + value, x.place(0, value), INVALID);
        }
    }

    /** A stop of a plate behind bounds one ahead of it, and one that touches a held one is held as well. */
    static void promise10HeldThroughNeighbors() {
        SpringPlates x = withPlates(3);
        x.load(0, 99);
        x.load(1, 99);
        x.stop(2, 1, 20);
        for (int p = 0; p < 3; p++) {
            duePlace(x, p, 20, 1);
        }
        due("10: the first one is not at a stop of its own", x.plates(1), 4);
        SpringPlates y = withPlates(3);
        y.stop(0, 0, 45);
        y.load(1, -99);
        y.load(2, -99);
        for (int p = 0; p < 3; p++) {
            duePlace(y, p, 45, 1);
        }
        due("10: touching", y.plates(2), 3);
    }

    /** Rows that are nearly at rest, or are for some of the plates alone, are no rest. */
    static void promise10NearlyAtRest() {
        SpringPlates x = withPlates(2);
        x.spring(1, 1, 9);
        x.load(1, -59);
        // Both touch; at 0 the force on them is 50 + 10 - 59 = 1.
        duePlace(x, 0, 1, 2);
        duePlace(x, 1, 1, 2);
        SpringPlates y = withPlates(2);
        y.load(0, -29);
        y.stop(1, 1, 30);
        duePlace(y, 0, 1, 2);
        duePlace(y, 1, 30, 1);
        SpringPlates z = withPlates(4);
        z.spring(3, 5, 16);
        z.load(1, 55);
        // The second and the third one touch short of the wall, the fourth one is at it.
        duePlace(z, 0, 285, 11);
        duePlace(z, 1, 570, 11);
        duePlace(z, 2, 570, 11);
        duePlace(z, 3, 60, 1);
        due("10: touching", z.plates(2), 2);
    }

    static void promise11Pull() {
        SpringPlates x = withPlates(1);
        duePull(x, 0, 20, 1);
        x.spring(1, 2, 50);
        // y - 10 = 2 (60 - y - 50): at 10, where both are as long as they are.
        duePull(x, 0, 0, 1);
        duePull(x, 1, 0, 1);
        x.spring(0, 5, 50);
        duePlace(x, 0, 270, 7);
        duePull(x, 0, -400, 7);
        duePull(x, 1, -400, 7);
        x.load(0, 99);
        duePull(x, 0, 5 * (369 - 350), 7);
        due("11: no such spring", x.pull(2, 0), INVALID);
        due("11: spring below 0", x.pull(-1, 0), INVALID);
        due("11: no such part", x.pull(0, 2), INVALID);
        due("11: part below 0", x.pull(0, -1), INVALID);
        for (int value : FAR_OFF) {
            due("11: spring " + value, x.pull(value, 0), INVALID);
            due("11: part " + value, x.pull(0, value), INVALID);
        }
    }

    static void promise12Push() {
        SpringPlates x = withPlates(2);
        duePush(x, 0, 0, 1);
        x.load(0, 99);
        x.load(1, -99);
        duePush(x, 0, -69, 1);
        duePush(x, 1, 69, 1);
        x.load(0, -99);
        x.load(1, 0);
        // The first one is at the wall: 0 - 10 - (y - 10) - (-99) = 99 - y, the other at half the width.
        duePlace(x, 1, 30, 1);
        duePush(x, 0, 69, 1);
        x.spring(2, 2, 10);
        duePush(x, 0, 99 * 3 - 110, 3);
        due("12: no such plate", x.push(2, 0), INVALID);
        due("12: plate below 0", x.push(-1, 0), INVALID);
        due("12: no such part", x.push(0, 2), INVALID);
        due("12: part below 0", x.push(0, -1), INVALID);
        for (int value : FAR_OFF) {
            due("12: plate " + value, x.push(value, 0), INVALID);
            due("12: part " + value, x.push(0, value), INVALID);
        }
    }

    static void duePlates(SpringPlates x, int... sets) {
        for (int what = 0; what < 5; what++) {
            due("13: plates " + what, x.plates(what), sets[what]);
        }
    }

    static void promise13Plates() {
        SpringPlates x = withPlates(2);
        duePlates(x, 0, 0, 0, 0, 0);
        x.stop(0, 0, 20);
        x.stop(1, 1, 40);
        // Both rest there of themselves: at their stops, without a push.
        duePlates(x, 1, 2, 0, 0, 0);
        x.stop(0, 1, 20);
        x.load(1, 1);
        duePlates(x, 1, 3, 0, 0, 2);
        x.unstop(1, 1);
        x.load(1, 99);
        duePlates(x, 1, 1, 0, 2, 3);
        x.load(1, -99);
        duePlates(x, 1, 1, 1, 0, 3);
        SpringPlates y = withPlates(4);
        for (int p = 0; p < 4; p++) {
            y.load(p, -99);
        }
        duePlates(y, 0, 0, 7, 15, 15);
        y.stop(3, 0, 60);
        duePlates(y, 8, 0, 3, 15, 15);
        due("13: below 0", y.plates(-1), INVALID);
        due("13: too great", y.plates(5), INVALID);
        for (int value : FAR_OFF) {
            due("13: what " + value, y.plates(value), INVALID);
        }
    }

    static void promise14Without() {
        SpringPlates x = withPlates(2);
        x.stop(0, 0, 31);
        x.stop(0, 1, 31);
        x.stop(1, 1, 40);
        duePlace(x, 1, 40, 1);
        dueParts("14: left one removed", x.without(0, 0, 0, 0), x.without(0, 0, 0, 1), 20, 1);
        dueParts("14: right one removed", x.without(0, 1, 0, 0), x.without(0, 1, 0, 1), 31, 1);
        dueParts("14: of the other plate", x.without(1, 1, 1, 0), x.without(1, 1, 1, 1), 91, 2);
        due("14: and where the first one is then", x.without(1, 1, 0, 0), 31);
        due("14: nothing is removed", x.count(2), 3);
        due("14: no change", x.count(4), 4);
        duePlace(x, 0, 31, 1);
        due("14: no such stop", x.without(1, 0, 0, 0), IMPOSSIBLE);
        due("14: nor another plate", x.without(1, 0, 2, 0), INVALID);
        due("14: other below 0", x.without(0, 0, -1, 0), INVALID);
        due("14: no such plate", x.without(2, 0, 0, 0), INVALID);
        due("14: plate below 0", x.without(-1, 0, 0, 0), INVALID);
        due("14: no such side", x.without(0, 2, 0, 0), INVALID);
        due("14: side below 0", x.without(0, -1, 0, 0), INVALID);
        due("14: no such part", x.without(0, 0, 0, 2), INVALID);
        due("14: part below 0", x.without(1, 0, 0, -1), INVALID);
        for (int value : FAR_OFF) {
            due("14: plate " + value, x.without(value, 0, 0, 0), INVALID);
            due("14: side " + value, x.without(0, value, 0, 0), INVALID);
            due("14: other " + value, x.without(0, 0, value, 0), INVALID);
            due("14: part " + value, x.without(0, 0, 0, value), INVALID);
        }
    }

    static void promise15LeastLoad() {
        SpringPlates x = withPlates(1);
        x.load(0, 50);
        due("15: its own load is left out", x.leastLoad(0, 30), 1000);
        due("15: more", x.leastLoad(0, 31), 1002);
        due("15: the right wall", x.leastLoad(0, 60), 1060);
        due("15: beyond it", x.leastLoad(0, 61), NONE);
        due("15: 99", x.leastLoad(0, 99), NONE);
        due("15: the left wall", x.leastLoad(0, 0), 901);
        due("15: its load stays", x.plateOf(0, 0), 1050);
        due("15: no change", x.count(4), 2);
        due("15: its place stays", x.place(0, 0), 55);
        x.spring(0, 2, 10);
        due("15: not a whole place", x.leastLoad(0, 24), 1002);
        due("15: by 0", x.leastLoad(0, 23), 999);
        x.spring(0, 9, 10);
        x.spring(1, 9, 10);
        due("15: 35", x.leastLoad(0, 35), 1090);
        due("15: too much for any", x.leastLoad(0, 36), NONE);
        due("15: 25", x.leastLoad(0, 25), 910);
        due("15: the least of all is enough", x.leastLoad(0, 24), 901);
        x.width(99);
        x.spring(1, 9, 1);
        // (90 + 882 + load) / 18
        due("15: by 99 not", x.leastLoad(0, 60), NONE);
        x.stop(0, 0, 60);
        due("15: a stop holds it there", x.leastLoad(0, 60), 901);
        x.spring(0, 9, 21);
        // (189 + 882 + 9) / 18 = 60 and (189 + 882 + 99) / 18 = 65
        due("15: just by 99", x.leastLoad(0, 65), 1099);
        due("15: no such plate", x.leastLoad(1, 0), INVALID);
        due("15: plate below 0", x.leastLoad(-1, 0), INVALID);
        due("15: place below 0", x.leastLoad(0, -1), INVALID);
        due("15: place too great", x.leastLoad(0, 100), INVALID);
        for (int value : FAR_OFF) {
            due("15: plate " + value, x.leastLoad(value, 0), INVALID);
            due("15: place " + value, x.leastLoad(0, value), INVALID);
        }
    }

    static void dueHardest(SpringPlates x, long plate, long side, long upper, long lower) {
        due("16: plate", x.hardest(0), plate);
        due("16: side", x.hardest(1), side);
        due("16: upper part", x.hardest(2), upper);
        due("16: lower part", x.hardest(3), lower);
    }

    static void promise16Hardest() {
        SpringPlates x = withPlates(2);
        for (int what = 0; what < 4; what++) {
            due("16: no stop", x.hardest(what), NONE);
        }
        x.stop(1, 0, 5);
        x.stop(1, 1, 55);
        dueHardest(x, 1, 0, 0, 1);
        x.unstop(1, 0);
        x.stop(0, 0, 25);
        x.stop(1, 1, 35);
        dueHardest(x, 0, 0, 15, 2);
        x.stop(1, 1, 34);
        dueHardest(x, 1, 1, 17, 2);
        due("16: nothing is removed", x.count(2), 2);
        due("16: what below 0", x.hardest(-1), INVALID);
        due("16: what too great", x.hardest(4), INVALID);
        due("16: also without a stop", new SpringPlates().hardest(4), INVALID);
        for (int value : FAR_OFF) {
            due("16: what " + value, x.hardest(value), INVALID);
        }
        SpringPlates y = withPlates(2);
        // Without it the plates go from 0 and 30 to 20 and 40.
        y.stop(0, 1, 0);
        dueHardest(y, 0, 1, 30, 1);
        y.load(0, -40);
        y.load(1, 99);
        y.stop(0, 1, 50);
        y.stop(0, 0, 10);
        y.undo();
        dueHardest(y, 0, 1, 0, 1);
    }

    static void promise16LongSum() {
        SpringPlates x = withPlates(4);
        x.width(99);
        int[][] springs = {{9, 30}, {8, 48}, {9, 20}, {7, 8}, {8, 25}};
        for (int k = 0; k < 5; k++) {
            x.spring(k, springs[k][0], springs[k][1]);
        }
        int[] loads = {-16, -51, -96, 18};
        for (int p = 0; p < 4; p++) {
            x.load(p, loads[p]);
        }
        x.stop(1, 0, 77);
        dueHardest(x, 1, 0, 5234198963L, 72473040);
    }

    static void promise17Count() {
        SpringPlates x = withPlates(3);
        x.load(0, -99);
        x.load(1, -99);
        x.load(2, 1);
        x.stop(0, 0, 1);
        x.stop(0, 1, 2);
        x.stop(2, 1, 60);
        x.width(61);
        withText(x, "p;p");
        int[] counts = {3, 61, 3, 803, 4, 3};
        for (int what = 0; what < 6; what++) {
            due("17: count " + what, x.count(what), counts[what]);
        }
        x.drop(0);
        due("17: plates", x.count(0), 2);
        due("17: stops", x.count(2), 1);
        due("17: loads", x.count(3), 902);
        due("17: below 0", x.count(-1), INVALID);
        due("17: too great", x.count(6), INVALID);
        for (int value : FAR_OFF) {
            due("17: what " + value, x.count(value), INVALID);
        }
    }

    static void promise18Undo() {
        SpringPlates x = new SpringPlates();
        x.width(50);
        x.plate();
        x.spring(1, 2, 3);
        x.load(0, 4);
        x.stop(0, 0, 5);
        x.unstop(0, 0);
        withText(x, "p;w99;");
        due("18: plays", x.play(), 2);
        due("18: at most 4", x.count(4), 4);
        due("18: no change by an error", x.width(0), INVALID);
        duePlace(x, 0, 214, 5);
        due("18: the play", x.undo(), 3);
        due("18: all of it", x.count(0) * 100 + x.count(1), 150);
        due("18: rests as before", x.place(0, 0), 36);
        due("18: the text stays", x.count(5), 6);
        due("18: unstop", x.undo(), 2);
        due("18: its stop", x.plateOf(0, 1), 5);
        due("18: stop", x.undo(), 1);
        due("18: no stop", x.plateOf(0, 1), NONE);
        due("18: its load", x.plateOf(0, 0), 1004);
        due("18: load", x.undo(), 0);
        due("18: no load", x.plateOf(0, 0), 1000);
        due("18: its spring", x.plateOf(0, 5), 2);
        due("18: older ones are dropped", x.undo(), IMPOSSIBLE);
        due("18: changes nothing", x.count(0), 1);
        due("18: no change itself", x.count(4), 0);
        x.drop(0);
        due("18: drop", x.undo(), 0);
        due("18: its plate", x.plateOf(0, 5), 2);
        for (int i = 0; i < 9; i++) {
            x.width(20 + i);
        }
        for (int i = 3; i >= 0; i--) {
            due("18: left", x.undo(), i);
            due("18: width", x.count(1), 24 + i);
        }
    }

    static void promise19Type() {
        SpringPlates x = new SpringPlates();
        due("19: least", x.type(32), 1);
        due("19: greatest", x.type(126), 2);
        due("19: too small", x.type(31), INVALID);
        due("19: too great", x.type(127), INVALID);
        for (int value : FAR_OFF) {
            due("19: character " + value, x.type(value), INVALID);
        }
        for (int size = 3; size <= 60; size++) {
            due("19: length", x.type('p'), size);
        }
        due("19: full", x.type('p'), LIMIT);
        due("19: full, and out of range", x.type(127), INVALID);
        due("19: stays", x.count(5), 60);
        due("19: no change", x.count(4), 0);
    }

    static void promise20ClearText() {
        SpringPlates x = withText(new SpringPlates(), "w9;");
        due("20: has a fault", x.fault(1), 2);
        due("20: length", x.clearText(), 3);
        due("20: empty", x.count(5), 0);
        due("20: no fault", x.fault(1), NONE);
        due("20: again", x.clearText(), 0);
        due("20: no change", x.count(4), 0);
        due("20: starts anew", x.type('p'), 1);
    }

    static void dueFault(String text, int position, int reason, int cause) {
        SpringPlates x = withText(new SpringPlates(), text);
        due("21: position in " + text, x.fault(0), position);
        due("21: reason in " + text, x.fault(1), reason);
        due("21: cause in " + text, x.fault(2), cause);
        due("22: play of " + text, x.play(), IMPOSSIBLE);
        due("21: nothing is done of " + text, x.count(0) * 100 + x.count(1), 60);
        due("22: no change by " + text, x.count(4), 0);
    }

    static void dueNoFault(String text) {
        SpringPlates x = withText(new SpringPlates(), text);
        for (int what = 0; what < 3; what++) {
            due("21: no fault in " + text, x.fault(what), NONE);
        }
        due("21: fault changes nothing", x.count(0) * 1000 + x.count(1) + x.count(4), 60);
        int settings = (int) text.chars().filter(c -> c == ';').count();
        due("22: play of " + text, x.play(), settings);
        due("22: one change by " + text, x.undo(), 0);
    }

    static void promise21FaultOfForm() {
        String[] broken = {"w", "w;", "w6", "w600;", "w-9;", "p", "p0;", "q;", ";", " p;", "P;", "k0,1;", "k0,1,10",
            "k,1,1;", "k0;", "k0,1,100;", "k0 ,1,1;", "k9,0,99", "x", "x;", "x0", "x000;", "l0,", "l0,-1;", "l0;", "r0,1,",
            "r0,1 ;", "f0,", "f0,-", "f0,--1;", "f0,-;", "f-0,1;", "f0,+1;", "f0,100;", "f0,-100;", "-", "0", "w6/;", "w6:;"};
        int[] causes = {1, 1, 2, 3, 1, 1, 1, 0, 0, 0, 0, 4, 7,
            1, 2, 7, 2, 7, 1, 1, 2, 3, 3, 3, 2, 4,
            4, 3, 4, 4, 4, 1, 3, 5, 6, 0, 0, 2, 2};
        for (int i = 0; i < broken.length; i++) {
            dueFault(broken[i], 0, 1, causes[i]);
            dueFault("p;w20;" + broken[i], 6, 1, causes[i]);
        }
        dueFault("p;;", 2, 1, 0);
        dueFault("q;w9;", 0, 1, 0);
    }

    static void promise21FaultOfRange() {
        dueFault("w09;", 0, 2, 0);
        dueFault("w0;", 0, 2, 0);
        dueFault("k1,1,1;", 0, 2, 0);
        dueFault("p;k2,1,1;", 2, 2, 0);
        dueFault("k0,0,1;", 0, 2, 1);
        dueFault("k0,10,1;", 0, 2, 1);
        dueFault("k0,9,51;", 0, 2, 2);
        dueFault("k1,0,51;", 0, 2, 0);
        dueFault("k0,0,51;", 0, 2, 1);
        dueFault("f0,5;", 0, 2, 0);
        dueFault("p;f1,5;", 2, 2, 0);
        dueFault("x0;", 0, 2, 0);
        dueFault("p;x1;", 2, 2, 0);
        dueFault("p;l0,61;", 2, 2, 1);
        dueFault("w50;p;r0,51;", 6, 2, 1);
        dueFault("l0,99;", 0, 2, 0);
        dueFault("f0,5;q", 0, 2, 0);
    }

    static void promise21FaultOtherwise() {
        dueFault("p;p;p;p;p;", 8, 3, NONE);
        dueFault("p;l0,30;r0,29;", 8, 3, NONE);
        dueFault("p;p;r1,29;l0,30;", 10, 3, NONE);
        dueFault("p;l0,30;w29;", 8, 3, NONE);
        dueFault("p;r0,30;w29;q", 8, 3, NONE);
        SpringPlates x = withText(withPlates(4), "w99;p;");
        due("21: in the present state", x.fault(0), 4);
        x.drop(0);
        due("21: and after a change", x.fault(0), NONE);
        for (int what : new int[] {-1, 3, Integer.MIN_VALUE, Integer.MAX_VALUE}) {
            due("21: what " + what, x.fault(what), INVALID);
            due("21: what " + what + " without a text", new SpringPlates().fault(what), INVALID);
        }
    }

    static void promise21NoFault() {
        String[] good = {"", "w10;", "w99;", "p;p;p;p;", "k0,1,10;", "k00,09,00;", "k0,9,50;", "p;k1,1,1;", "p;f0,-0;",
            "p;f0,-00;", "p;f0,-99;f00,99;", "p;l0,60;", "p;r0,0;", "p;x0;", "p;l0,30;x0;r0,29;", "p;l0,30;w30;", "w99;p;l0,99;"};
        for (String text : good) {
            dueNoFault(text);
        }
    }

    static void promise22Play() {
        SpringPlates x = withText(new SpringPlates(), "p;p;k1,2,3;f0,-20;l1,40;r1,50;w70;");
        due("22: settings", x.play(), 7);
        due("22: plates and width", x.count(0) * 100 + x.count(1), 270);
        due("22: spring", x.plateOf(0, 5) * 100 + x.plateOf(0, 6), 203);
        due("22: load", x.plateOf(0, 0), 980);
        due("22: left stop", x.plateOf(1, 1), 40);
        due("22: right stop", x.plateOf(1, 2), 50);
        due("22: the text stays", x.count(5), 34);
        due("22: one change", x.count(4), 1);
        due("22: again", x.play(), 7);
        due("22: 4 plates", x.count(0), 4);
        due("22: no more", x.play(), IMPOSSIBLE);
        due("22: undone", x.undo(), 1);
        due("22: 2 plates", x.count(0), 2);
        withText(x, "x1;");
        due("22: removes both stops", x.play(), 1);
        due("22: none", x.count(2), 0);
        due("22: none to remove is possible", x.play(), 1);
        x.clearText();
        due("22: none at all", x.play(), 0);
        due("22: is a change", x.count(4), 4);
        withText(x, "x1;x1;x1;x1;x1;x1;x1;x1;x1;x1;x1;x1;x1;x1;x1;x1;x1;x1;x1;x1;");
        due("22: a full text", x.play(), 20);
        SpringPlates y = withText(withPlates(1), "f0,10;w9;");
        due("22: all or nothing", y.play(), IMPOSSIBLE);
        due("22: nothing", y.plateOf(0, 0), 1000);
        duePlace(y, 0, 30, 1);
        withText(y, "f0,10;");
        y.play();
        duePlace(y, 0, 35, 1);
    }

    public static void main(String[] args) {
        constants();
        promise1NewObject();
        promise2Width();
        promise3Plate();
        promise4Drop();
        promise5Spring();
        promise6Load();
        promise7Stop();
        promise8Unstop();
        promise9PlateOf();
        promise10Place();
        promise10HeldThroughNeighbors();
        promise10NearlyAtRest();
        promise11Pull();
        promise12Push();
        promise13Plates();
        promise14Without();
        promise15LeastLoad();
        promise16Hardest();
        promise16LongSum();
        promise17Count();
        promise18Undo();
        promise19Type();
        promise20ClearText();
        promise21FaultOfForm();
        promise21FaultOfRange();
        promise21FaultOtherwise();
        promise21NoFault();
        promise22Play();
        System.out.println(wrong == 0 ? "all promises are kept" : wrong + " answers are not as due");
        if (wrong != 0) {
            System.exit(1);
        }
    }
}
