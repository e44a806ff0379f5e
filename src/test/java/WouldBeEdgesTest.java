/** The edges of what would be: promises 14 to 17, sentence by sentence, and the number of calls of an object. */
public final class WouldBeEdgesTest {
    private static final int INVALID = Due.INVALID;
    private static final int IMPOSSIBLE = Due.IMPOSSIBLE;
    private static final int NONE = Due.NONE;

    private static void due(String what, long got, long want) {
        Due.due(what, got, want);
    }

    private static SpringPlates withStops(int plates) {
        SpringPlates x = Due.plates(plates);
        for (int plate = 0; plate < plates; plate++) {
            x.stop(plate, 0, 30);
            x.stop(plate, 1, 30);
        }
        return x;
    }

    private static void dueWithout(SpringPlates x, int plate, int side, int other, int upper, int lower) {
        due("without, upper part", x.without(plate, side, other, 0), upper);
        due("without, lower part", x.without(plate, side, other, 1), lower);
    }

    // ---- promise 14

    private static void withoutRanges() {
        Due.sentence("14: INVALID_ARGUMENT if an argument is out of range");
        for (int plates = 1; plates <= 4; plates++) {
            int count = plates;
            Due.range("plate", 0, plates - 1, plate -> withStops(count).without(plate, 0, 0, 0));
            Due.range("side", 0, 1, side -> withStops(count).without(count - 1, side, 0, 0));
            Due.range("other", 0, plates - 1, other -> withStops(count).without(0, 1, other, 0));
            Due.range("part", 0, 1, part -> withStops(count).without(0, 1, count - 1, part));
        }
        due("no plate", new SpringPlates().without(0, 0, 0, 0), INVALID);
    }

    private static void withoutNoStop() {
        Due.sentence("14: NOT_POSSIBLE if there is no such stop");
        for (int plate = 0; plate < 4; plate++) {
            for (int side = 0; side < 2; side++) {
                SpringPlates x = Due.plates(4);
                due("no stop", x.without(plate, side, 3 - plate, 0), IMPOSSIBLE);
                x.stop(plate, 1 - side, 30);
                due("the other one alone", x.without(plate, side, plate, 1), IMPOSSIBLE);
                x.stop(plate, side, 30);
                x.unstop(plate, side);
                due("it was removed", x.without(plate, side, plate, 1), IMPOSSIBLE);
            }
        }
    }

    private static void withoutBothErrors() {
        Due.sentence("INVALID_ARGUMENT is returned rather than NOT_POSSIBLE (without)");
        SpringPlates x = Due.plates(1);
        due("no stop, and no such other", x.without(0, 0, 1, 0), INVALID);
        due("no stop, and no such part", x.without(0, 0, 0, 2), INVALID);
        due("no stop, and a part below 0", x.without(0, 0, 0, -1), INVALID);
        due("no stop, and no such side", x.without(0, 2, 0, 0), INVALID);
        due("no stop, and no such plate", x.without(1, 0, 0, 0), INVALID);
    }

    private static void withoutEach() {
        Due.sentence("14: Tells where a plate would rest if a stop was removed.");
        for (int plate = 0; plate < 4; plate++) {
            SpringPlates x = Due.plates(4);
            x.stop(plate, 0, 60);
            SpringPlates y = Due.plates(4);
            y.stop(plate, 1, 0);
            for (int other = 0; other < 4; other++) {
                dueWithout(x, plate, 0, other, 12 * (other + 1), 1);
                dueWithout(y, plate, 1, other, 12 * (other + 1), 1);
            }
            Due.duePlace(x, plate, 60, 1);
            Due.duePlace(y, plate, 0, 1);
        }
    }

    private static void withoutTheOtherStaysThere() {
        Due.sentence("14: if a stop was removed (that one alone)");
        SpringPlates x = Due.plates(2);
        x.stop(0, 0, 30);
        x.stop(0, 1, 30);
        dueWithout(x, 0, 0, 0, 20, 1);
        dueWithout(x, 0, 1, 0, 30, 1);
        dueWithout(x, 0, 1, 1, 45, 1);
        x.stop(1, 0, 30);
        x.stop(1, 1, 30);
        dueWithout(x, 0, 1, 0, 30, 1);
        dueWithout(x, 1, 0, 1, 30, 1);
        dueWithout(x, 1, 1, 1, 45, 1);
        due("none is removed", x.count(2), 4);
    }

    private static void withoutToTheWalls() {
        Due.sentence("(Without stops the walls do so), 0 over 1");
        SpringPlates x = Due.plates(1);
        x.load(0, -99);
        x.stop(0, 0, 1);
        dueWithout(x, 0, 0, 0, 0, 1);
        x.unstop(0, 0);
        x.load(0, 99);
        x.stop(0, 1, 59);
        dueWithout(x, 0, 1, 0, 60, 1);
        x.load(0, 1);
        dueWithout(x, 0, 1, 0, 61, 2);
    }

    // ---- promise 15

    private static void leastLoadRanges() {
        Due.sentence("15: plate: number of the plate; place: 0 to 99; INVALID_ARGUMENT if an argument is out of range");
        Due.plateNumbers("leastLoad", (x, plate) -> x.leastLoad(plate, 0));
        for (int plate = 0; plate < 4; plate++) {
            int which = plate;
            Due.range("place", 0, 99, place -> Due.plates(4).leastLoad(which, place));
        }
        SpringPlates wide = Due.plates(1);
        wide.width(99);
        due("one beyond the greatest width", wide.leastLoad(0, 100), INVALID);
        SpringPlates narrow = Due.plates(1);
        narrow.width(10);
        due("the greatest place, beyond the least width", narrow.leastLoad(0, 99), NONE);
        due("one beyond the least width", narrow.leastLoad(0, 11), NONE);
        due("the least width", narrow.leastLoad(0, 10), 1010);
    }

    private static void leastLoadOfAll() {
        Due.sentence("15: the least load, from -99 (to 99)");
        SpringPlates x = Due.plates(1);
        x.width(99);
        x.spring(0, 1, 11);
        // Twice the place is 100 and the load.
        due("by -99 not", x.leastLoad(0, 1), 902);
        due("by -99 at 1/2", x.leastLoad(0, 0), 901);
        x.spring(0, 1, 12);
        due("just by -99", x.leastLoad(0, 1), 901);
        x.spring(0, 1, 13);
        due("more than needed by -99", x.leastLoad(0, 1), 901);
        due("by -98 just not", x.leastLoad(0, 2), 902);
    }

    private static void leastLoadGreatest() {
        Due.sentence("15: the least load, (from -99) to 99; NOT_FOUND if there is none");
        SpringPlates x = Due.plates(1);
        x.width(99);
        due("just by 99", x.leastLoad(0, 99), 1099);
        x.spring(0, 1, 9);
        due("by 99 just not", x.leastLoad(0, 99), NONE);
        due("one less", x.leastLoad(0, 98), 1098);
        x.spring(0, 1, 11);
        due("by 98", x.leastLoad(0, 99), 1098);
    }

    private static void leastLoadAtOrRight() {
        Due.sentence("15: would rest at a place or to the right of it");
        SpringPlates x = Due.plates(1);
        x.spring(0, 2, 10);
        // Three times the place is 70 and the load.
        due("just at it", x.leastLoad(0, 23), 999);
        due("at it or to the right", x.leastLoad(0, 24), 1002);
        due("just by 5", x.leastLoad(0, 25), 1005);
        x.spring(0, 4, 10);
        // Five times the place is 90 and the load.
        due("by 0", x.leastLoad(0, 18), 1000);
        due("by 5", x.leastLoad(0, 19), 1005);
        x.spring(1, 3, 10);
        // Seven times the place is 190 and the load: by -1 it is at 27.
        due("by -1", x.leastLoad(0, 27), 999);
        due("by 6", x.leastLoad(0, 28), 1006);
    }

    private static void leastLoadAtWallsAndStops() {
        Due.sentence("15: by which a plate would rest at a place (a wall, or a stop)");
        SpringPlates x = Due.plates(1);
        due("the left wall", x.leastLoad(0, 0), 901);
        due("1", x.leastLoad(0, 1), 942);
        due("the right wall", x.leastLoad(0, 60), 1060);
        due("beyond it", x.leastLoad(0, 61), NONE);
        x.stop(0, 1, 20);
        due("the right stop", x.leastLoad(0, 20), 980);
        due("beyond it", x.leastLoad(0, 21), NONE);
        x.stop(0, 0, 15);
        due("the left stop", x.leastLoad(0, 15), 901);
        due("one more", x.leastLoad(0, 16), 972);
        x.stop(0, 0, 20);
        due("both stops", x.leastLoad(0, 20), 901);
        due("beyond both", x.leastLoad(0, 21), NONE);
    }

    private static void leastLoadInPlaceOfItsOwn() {
        Due.sentence("15: (in place of its own)");
        for (int load : new int[] {-99, 0, 99}) {
            SpringPlates x = Due.plates(2);
            x.load(0, load);
            x.load(1, 7);
            due("20 and a third of 7", x.leastLoad(0, 23), 1001);
            due("its load stays", x.plateOf(0, 0), 1000 + load);
            due("no change", x.count(4), 4);
        }
    }

    private static void leastLoadThroughNeighbors() {
        Due.sentence("15: NOT_FOUND if there is none (for stops of others)");
        SpringPlates x = Due.plates(2);
        x.stop(1, 1, 30);
        due("at the other one's stop", x.leastLoad(0, 30), 1030);
        due("beyond it", x.leastLoad(0, 31), NONE);
        SpringPlates y = Due.plates(2);
        y.stop(0, 0, 50);
        due("held by the other one", y.leastLoad(1, 50), 901);
        due("one more", y.leastLoad(1, 51), 992);
    }

    // ---- promise 16

    private static void hardestRange() {
        Due.sentence("16: INVALID_ARGUMENT if what is out of range");
        Due.range("what, with stops", 0, 3, what -> (int) withStops(2).hardest(what));
        Due.range("what, without", 0, 3, what -> (int) Due.plates(2).hardest(what));
        Due.range("what, without plates", 0, 3, what -> (int) new SpringPlates().hardest(what));
    }

    private static void hardestOfNone() {
        Due.sentence("16: NOT_FOUND if there is no stop");
        for (int plates = 0; plates <= 4; plates++) {
            Due.dueHardest(Due.plates(plates), NONE, NONE, NONE, NONE);
        }
        SpringPlates x = Due.plates(1);
        x.stop(0, 0, 40);
        Due.dueHardest(x, 0, 0, 10, 1);
        x.unstop(0, 0);
        Due.dueHardest(x, NONE, NONE, NONE, NONE);
        x.undo();
        Due.dueHardest(x, 0, 0, 10, 1);
        x.drop(0);
        Due.dueHardest(x, NONE, NONE, NONE, NONE);
    }

    private static void hardestHoldsNothing() {
        Due.sentence("16: of several the first one (also if none holds anything), 0 over 1");
        for (int plate = 0; plate < 4; plate++) {
            for (int side = 0; side < 2; side++) {
                SpringPlates x = Due.plates(4);
                x.spring(0, 7, 10);
                x.stop(plate, side, side == 0 ? 0 : 60);
                Due.dueHardest(x, plate, side, 0, 1);
                x.stop(3, 1, 60);
                Due.dueHardest(x, plate, side, 0, 1);
                x.stop(0, 0, 0);
                Due.dueHardest(x, 0, 0, 0, 1);
            }
        }
    }

    private static void hardestOrder() {
        Due.sentence("16: stops in order of their plates, the left one first, of several the first one");
        SpringPlates x = Due.plates(2);
        x.stop(0, 1, 15);
        x.stop(1, 0, 45);
        // Without either of both its plate moves by 15/2.
        Due.dueHardest(x, 0, 1, 15, 2);
        x.stop(1, 0, 46);
        Due.dueHardest(x, 1, 0, 17, 2);
        x.stop(0, 1, 13);
        Due.dueHardest(x, 0, 1, 10, 1);
        SpringPlates y = Due.plates(2);
        y.stop(1, 1, 35);
        y.stop(0, 0, 25);
        Due.dueHardest(y, 0, 0, 15, 2);
        y.stop(0, 1, 25);
        Due.dueHardest(y, 0, 0, 15, 2);
        SpringPlates z = Due.plates(4);
        z.stop(2, 1, 20);
        z.stop(3, 1, 20);
        // They rest at 5, 10, 15 and 20, and without the last stop at thirds of 20, at 20 and at 40.
        Due.dueHardest(z, 3, 1, 30, 1);
    }

    private static void hardestSum() {
        Due.sentence("16: that of which all plates together would move farthest (the sum of how far each plate would move)");
        SpringPlates x = Due.plates(4);
        x.stop(0, 1, 0);
        // Each of the others is 1/4 of the way farther to the left.
        Due.dueHardest(x, 0, 1, 12 + 9 + 6 + 3, 1);
        SpringPlates y = Due.plates(4);
        y.stop(3, 0, 60);
        Due.dueHardest(y, 3, 0, 3 + 6 + 9 + 12, 1);
        SpringPlates z = Due.plates(3);
        z.stop(0, 1, 0);
        z.stop(2, 0, 54);
        // Without the first one's the first one moves by 18 and the next one by 9, without the last one's by 27/2 and 27/4.
        Due.dueHardest(z, 0, 1, 27, 1);
    }

    private static void hardestBeyondInt() {
        Due.sentence("16: long hardest");
        SpringPlates x = Due.plates(4);
        x.width(99);
        int[][] springs = {{9, 30}, {8, 48}, {9, 20}, {7, 8}, {8, 25}};
        for (int spring = 0; spring <= 4; spring++) {
            x.spring(spring, springs[spring][0], springs[spring][1]);
        }
        int[] loads = {-16, -51, -96, 18};
        for (int plate = 0; plate < 4; plate++) {
            x.load(plate, loads[plate]);
        }
        x.stop(1, 0, 77);
        Due.dueHardest(x, 1, 0, 5234198963L, 72473040);
    }

    // ---- promise 17

    private static void countRange() {
        Due.sentence("17: INVALID_ARGUMENT if what is out of range");
        Due.range("what", 0, 5, what -> new SpringPlates().count(what));
        Due.range("what, of 4 plates", 0, 5, what -> withStops(4).count(what));
    }

    private static void dueCounts(SpringPlates x, int... counts) {
        for (int what = 0; what < counts.length; what++) {
            due("count " + what, x.count(what), counts[what]);
        }
    }

    private static void countLeast() {
        Due.sentence("17: 0: plates; 1: the width; 2: stops; 3: the sum of all loads plus 1000; 4: states; 5: the length of the text");
        SpringPlates x = new SpringPlates();
        dueCounts(x, 0, 60, 0, 1000, 0, 0);
        x.width(10);
        dueCounts(x, 0, 10, 0, 1000, 1, 0);
        SpringPlates y = Due.plates(4);
        for (int plate = 0; plate < 4; plate++) {
            y.load(plate, -99);
        }
        dueCounts(y, 4, 60, 0, 604, 4, 0);
    }

    private static void countGreatest() {
        Due.sentence("17: (the greatest ones)");
        SpringPlates x = Due.withText(withStops(4), "x".repeat(60));
        x.width(99);
        for (int plate = 0; plate < 4; plate++) {
            x.load(plate, 99);
        }
        dueCounts(x, 4, 99, 8, 1396, 4, 60);
    }

    private static void countOfDropped() {
        Due.sentence("17: stops; the sum of all loads (of plates that are there)");
        SpringPlates x = withStops(4);
        for (int plate = 0; plate < 4; plate++) {
            x.load(plate, 10 + plate);
        }
        x.drop(3);
        dueCounts(x, 3, 60, 6, 1033, 4, 0);
        x.drop(0);
        dueCounts(x, 2, 60, 4, 1023, 4, 0);
        x.unstop(1, 0);
        dueCounts(x, 2, 60, 3, 1023, 4, 0);
        x.drop(0);
        x.drop(0);
        dueCounts(x, 0, 60, 0, 1000, 4, 0);
        x.plate();
        dueCounts(x, 1, 60, 0, 1000, 4, 0);
    }

    // ---- the number of calls

    private static void callsOfOneObject() {
        Due.sentence("An object is used for at most 512 calls after it has been made");
        SpringPlates x = new SpringPlates();
        for (int round = 0; round < 127; round++) {
            int width = 10 + round % 90;
            due("width", x.width(width), round == 0 ? 60 : 10 + (round - 1) % 90);
            due("history", x.count(4), Math.min(round + 1, 4));
            due("pull", x.pull(0, 0), Due.BILLION + width - 10);
            due("error", x.width(100), INVALID);
        }
        due("509th", x.undo(), 3);
        due("510th", x.undo(), 2);
        due("511th", x.undo(), 1);
        due("512th", x.count(1), 10 + 123 % 90);
    }

    private static void dearCalls() {
        Due.sentence("An object is used for at most 512 calls (also dear ones)");
        SpringPlates x = withStops(4);
        for (int calls = 12; calls < 512; calls += 4) {
            due("hardest", x.hardest(0), 0);
            due("leastLoad", x.leastLoad(3, 30), 901);
            due("without", x.without(3, 1, 3, 0), 45);
            due("play", x.play(), 0);
        }
    }

    public static void main(String[] args) {
        withoutRanges();
        withoutNoStop();
        withoutBothErrors();
        withoutEach();
        withoutTheOtherStaysThere();
        withoutToTheWalls();
        leastLoadRanges();
        leastLoadOfAll();
        leastLoadGreatest();
        leastLoadAtOrRight();
        leastLoadAtWallsAndStops();
        leastLoadInPlaceOfItsOwn();
        leastLoadThroughNeighbors();
        hardestRange();
        hardestOfNone();
        hardestHoldsNothing();
        hardestOrder();
        hardestSum();
        hardestBeyondInt();
        countRange();
        countLeast();
        countGreatest();
        countOfDropped();
        callsOfOneObject();
        dearCalls();
        Due.end("what would be");
    }
}
