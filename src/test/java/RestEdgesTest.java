/** The edges of rest: promises 10 to 13, and the terms that they stand on, sentence by sentence. */
public final class RestEdgesTest {
    private static void due(String what, long got, long want) {
        Due.due(what, got, want);
    }

    /** One plate between two springs. */
    private static SpringPlates one(int width, int strength0, int length0, int strength1, int length1) {
        SpringPlates x = Due.plates(1);
        x.width(width);
        x.spring(0, strength0, length0);
        x.spring(1, strength1, length1);
        return x;
    }

    /** Two plates, with springs of strength 1. */
    private static SpringPlates two(int length0, int length1, int length2) {
        SpringPlates x = Due.plates(2);
        x.spring(0, 1, length0);
        x.spring(1, 1, length1);
        x.spring(2, 1, length2);
        return x;
    }

    // ---- promise 10

    private static void placeNumbers() {
        Due.sentence("10: plate: number of the plate; INVALID_ARGUMENT if an argument is out of range");
        for (int part = 0; part <= 2; part++) {
            int which = part;
            Due.plateNumbers("place, part " + part, (x, plate) -> x.place(plate, which));
        }
    }

    private static void placeParts() {
        Due.sentence("10: part: 0: the upper part of its place; 1: the lower part; 2: its place, rounded down");
        for (int plate = 0; plate < 4; plate++) {
            int which = plate;
            Due.range("part", 0, 2, part -> Due.plates(4).place(which, part));
        }
        SpringPlates x = one(60, 9, 10, 9, 10);
        x.load(0, 2);
        due("upper part", x.place(0, 0), 271);
        due("lower part", x.place(0, 1), 9);
        due("rounded down", x.place(0, 2), 30);
    }

    private static void placeRoundedDown() {
        Due.sentence("10: its place, rounded down");
        SpringPlates x = one(60, 9, 10, 9, 10);
        int[] loads = {0, -1, 1, 17, 18, -17, -18};
        int[] places = {30, 29, 30, 30, 31, 29, 29};
        for (int i = 0; i < loads.length; i++) {
            x.load(0, loads[i]);
            due("30 and " + loads[i] + "/18", x.place(0, 2), places[i]);
        }
        SpringPlates y = one(50, 1, 0, 1, 50);
        due("0", y.place(0, 2), 0);
        y.load(0, 1);
        due("1/2", y.place(0, 2), 0);
        y.load(0, 2);
        due("1", y.place(0, 2), 1);
        SpringPlates z = one(50, 1, 50, 1, 0);
        due("the width", z.place(0, 2), 50);
        z.load(0, -1);
        due("1/2 less", z.place(0, 2), 49);
    }

    private static void lowestTerms() {
        Due.sentence("fractions are told by their upper and lower parts, in lowest terms");
        SpringPlates x = one(60, 9, 10, 9, 10);
        int[] loads = {0, 1, 2, 3, 6, 9, 10, 12, 18, -9, -99};
        int[] uppers = {30, 541, 271, 181, 91, 61, 275, 92, 31, 59, 49};
        int[] lowers = {1, 18, 9, 6, 3, 2, 9, 3, 1, 2, 2};
        for (int i = 0; i < loads.length; i++) {
            x.load(0, loads[i]);
            Due.duePlace(x, 0, uppers[i], lowers[i]);
        }
        x.load(0, 1);
        // 9 (541/18 - 10) and, on the other side, 9 (60 - 541/18 - 10)
        Due.duePull(x, 0, 361, 2);
        Due.duePull(x, 1, 359, 2);
        // The same place by springs that push, so that the forces are below 0.
        x.spring(0, 9, 50);
        x.spring(1, 9, 50);
        Due.duePlace(x, 0, 541, 18);
        Due.duePull(x, 0, -359, 2);
        Due.duePull(x, 1, -361, 2);
    }

    private static void lowestTermsBesideOthers() {
        Due.sentence("in lowest terms (also where another plate's place has a greater lower part, and below 0)");
        SpringPlates x = Due.plates(2);
        x.stop(0, 0, 31);
        x.stop(0, 1, 31);
        x.spring(0, 1, 50);
        int[] strengths = {1, 2, 3, 4, 5};
        int[] uppers = {91, 47, 191, 241, 97};
        int[] lowers = {2, 1, 4, 5, 2};
        for (int i = 0; i < strengths.length; i++) {
            // The second one is at (31 + 10 + 50 times the strength) over 1 and the strength.
            x.spring(2, strengths[i], 10);
            Due.duePlace(x, 1, uppers[i], lowers[i]);
            Due.duePlace(x, 0, 31, 1);
            Due.duePull(x, 0, -19, 1);
            x.spring(0, 1, 40);
            Due.duePull(x, 0, -9, 1);
            x.spring(0, 1, 25);
            Due.duePull(x, 0, 6, 1);
            x.spring(0, 1, 50);
        }
    }

    private static void nothingIsZeroOverOne() {
        Due.sentence("the lower part above 0 (0 over 1 for nothing)");
        SpringPlates x = Due.plates(2);
        x.spring(2, 6, 10);
        x.load(0, -99);
        // The first one's is 1, though the other one's is not.
        Due.duePlace(x, 1, 310, 7);
        Due.duePlace(x, 0, 0, 1);
        Due.duePush(x, 1, 0, 1);
        SpringPlates y = two(10, 0, 10);
        y.spring(2, 8, 10);
        y.load(1, -99);
        y.load(0, 99);
        Due.duePull(y, 1, 0, 1);
        // Both are at (10 + 8 times 50) / 9, and the first one is pulled to the left by 320/9.
        Due.duePlace(y, 0, 410, 9);
        Due.duePush(y, 0, 320 - 99 * 9, 9);
        Due.duePush(y, 1, 99 * 9 - 320, 9);
    }

    private static void stopsAreNotPassed() {
        Due.sentence("it cannot be to the left of the left one, nor to the right of the right one");
        for (int plate = 0; plate < 4; plate++) {
            int free = 12 * (plate + 1);
            int[] lefts = {free - 1, free, free + 1, 60};
            for (int stop : lefts) {
                SpringPlates x = Due.plates(4);
                x.stop(plate, 0, stop);
                Due.duePlace(x, plate, Math.max(stop, free), 1);
            }
            int[] rights = {free + 1, free, free - 1, 0};
            for (int stop : rights) {
                SpringPlates x = Due.plates(4);
                x.stop(plate, 1, stop);
                Due.duePlace(x, plate, Math.min(stop, free), 1);
            }
        }
    }

    private static void stopsOfOthersHold() {
        Due.sentence("they cannot pass one another (nor stops of one another)");
        for (int plate = 0; plate < 4; plate++) {
            SpringPlates x = Due.plates(4);
            x.stop(plate, 0, 60);
            SpringPlates y = Due.plates(4);
            y.stop(plate, 1, 0);
            for (int other = 0; other < 4; other++) {
                if (other >= plate) {
                    Due.duePlace(x, other, 60, 1);
                }
                if (other <= plate) {
                    Due.duePlace(y, other, 0, 1);
                }
            }
        }
    }

    private static void wallsHold() {
        Due.sentence("(Without stops the walls do so.)");
        SpringPlates x = one(50, 1, 0, 1, 50);
        x.load(0, -1);
        Due.duePlace(x, 0, 0, 1);
        Due.duePush(x, 0, 1, 1);
        x.load(0, -99);
        Due.duePlace(x, 0, 0, 1);
        SpringPlates y = one(50, 1, 50, 1, 0);
        y.load(0, 1);
        Due.duePlace(y, 0, 50, 1);
        Due.duePush(y, 0, -1, 1);
        for (int width : new int[] {10, 99}) {
            SpringPlates z = Due.plates(4);
            z.width(width);
            for (int plate = 0; plate < 4; plate++) {
                z.load(plate, plate < 2 ? -99 : 99);
            }
            for (int plate = 0; plate < 4; plate++) {
                Due.duePlace(z, plate, plate < 2 ? 0 : width, 1);
            }
        }
    }

    private static void platesTouch() {
        Due.sentence("Plates have no thickness; they cannot pass one another, but can touch (be at the same place).");
        for (int plate = 0; plate < 3; plate++) {
            int[] loads = {14, 15, 16, 99};
            for (int load : loads) {
                SpringPlates x = Due.plates(4);
                x.load(plate, load);
                x.load(plate + 1, -load);
                // A load by 1 takes 4/5 of the 12 that are between them; by 15 they just touch.
                boolean touching = load >= 15;
                due("touching by " + load, x.plates(2), touching ? 1 << plate : 0);
                due("pushed by " + load, x.plates(4), load > 15 ? 3 << plate : 0);
                Due.duePush(x, plate, load > 15 ? 15 - load : 0, 1);
                Due.duePush(x, plate + 1, load > 15 ? load - 15 : 0, 1);
            }
        }
    }

    private static void forcesOfSprings() {
        Due.sentence("pulls each of what is at its ends towards the other one; A plate has a load, which is a force to the right");
        SpringPlates x = one(60, 1, 10, 1, 10);
        x.spring(0, 2, 10);
        Due.duePlace(x, 0, 70, 3);
        x.spring(0, 1, 10);
        x.spring(1, 2, 10);
        Due.duePlace(x, 0, 110, 3);
        x.load(0, 1);
        Due.duePlace(x, 0, 37, 1);
        x.load(0, -1);
        Due.duePlace(x, 0, 109, 3);
        x.spring(1, 2, 50);
        x.load(0, 0);
        Due.duePlace(x, 0, 10, 1);
    }

    // ---- promise 11

    private static void pullNumbers() {
        Due.sentence("11: spring: number of the spring; part: 0: the upper part, plus 1000000000; 1: the lower part");
        for (int part = 0; part < 2; part++) {
            int which = part;
            Due.springNumbers("pull, part " + part, (x, spring) -> x.pull(spring, which));
        }
        for (int spring = 0; spring <= 4; spring++) {
            int which = spring;
            Due.range("part", 0, 1, part -> Due.plates(4).pull(which, part));
        }
        due("no plate, part 2", new SpringPlates().pull(0, 2), Due.INVALID);
    }

    private static void pullWithoutPlates() {
        Due.sentence("strength times (the distance of its ends less its length); below 0 this pushes them apart");
        int[] widths = {99, 60, 51, 50, 49, 10, 10};
        int[] strengths = {9, 1, 9, 9, 9, 9, 1};
        int[] lengths = {0, 10, 50, 50, 50, 50, 11};
        int[] pulls = {891, 50, 9, 0, -9, -360, -1};
        for (int i = 0; i < widths.length; i++) {
            SpringPlates x = new SpringPlates();
            x.width(widths[i]);
            x.spring(0, strengths[i], lengths[i]);
            Due.duePull(x, 0, pulls[i], 1);
        }
    }

    private static void pullAtNoDistance() {
        Due.sentence("11: Tells by which force a spring pulls at rest (below 0: it pushes).");
        SpringPlates x = one(99, 9, 50, 9, 0);
        x.stop(0, 1, 0);
        Due.duePull(x, 0, -450, 1);
        Due.duePull(x, 1, 891, 1);
        x.spring(0, 9, 0);
        Due.duePull(x, 0, 0, 1);
        SpringPlates y = one(60, 5, 50, 2, 50);
        Due.duePull(y, 0, -400, 7);
        Due.duePull(y, 1, -400, 7);
        SpringPlates z = Due.plates(4);
        for (int spring = 0; spring <= 4; spring++) {
            z.spring(spring, spring + 1, 0);
        }
        for (int spring = 0; spring <= 4; spring++) {
            // 60 over 1 + 1/2 + 1/3 + 1/4 + 1/5
            Due.duePull(z, spring, 3600, 137);
        }
    }

    // ---- promise 12

    private static void pushNumbers() {
        Due.sentence("12: plate: number of the plate; part: 0: the upper part, plus 1000000000; 1: the lower part");
        for (int part = 0; part < 2; part++) {
            int which = part;
            Due.plateNumbers("push, part " + part, (x, plate) -> x.push(plate, which));
        }
        for (int plate = 0; plate < 4; plate++) {
            int which = plate;
            Due.range("part", 0, 1, part -> Due.plates(4).push(which, part));
        }
    }

    private static void pushByStops() {
        Due.sentence("(A push is a force to the right, below 0 to the left.)");
        SpringPlates x = Due.plates(1);
        Due.duePush(x, 0, 0, 1);
        x.stop(0, 0, 31);
        Due.duePush(x, 0, 2, 1);
        x.unstop(0, 0);
        x.stop(0, 1, 29);
        Due.duePush(x, 0, -2, 1);
        x.stop(0, 1, 30);
        Due.duePush(x, 0, 0, 1);
        x.load(0, 1);
        Due.duePush(x, 0, -1, 1);
    }

    private static void pushGreatest() {
        Due.sentence("what makes the forces of its springs, its load and the push together 0");
        SpringPlates x = one(99, 9, 50, 9, 0);
        x.load(0, 99);
        x.stop(0, 1, 0);
        Due.duePush(x, 0, -450 - 891 - 99, 1);
        SpringPlates y = one(99, 9, 0, 9, 50);
        y.load(0, -99);
        y.stop(0, 0, 99);
        Due.duePush(y, 0, 450 + 891 + 99, 1);
    }

    private static void pushByNeighbors() {
        Due.sentence("the force by which stops, walls and neighbors together hold it");
        SpringPlates x = two(30, 0, 31);
        Due.duePlace(x, 0, 59, 2);
        Due.duePlace(x, 1, 59, 2);
        Due.duePush(x, 0, -1, 2);
        Due.duePush(x, 1, 1, 2);
        SpringPlates y = Due.plates(3);
        y.stop(2, 1, 20);
        y.load(0, 99);
        y.load(1, 99);
        // All are at 20: the spring to the left of the first one pulls by 10, those between push by 10.
        Due.duePush(y, 0, 10 - 99 + 10, 1);
        Due.duePush(y, 1, -99, 1);
        Due.duePush(y, 2, -10 - 30, 1);
    }

    // ---- promise 13

    private static void platesRange() {
        Due.sentence("13: INVALID_ARGUMENT if what is out of range");
        for (int plates = 0; plates <= 4; plates++) {
            int count = plates;
            Due.range("what", 0, 4, what -> Due.plates(count).plates(what));
        }
    }

    private static void platesOfNone() {
        Due.sentence("13: Returns the set (of no plate, and of 4 that rest free)");
        Due.duePlates(new SpringPlates(), 0, 0, 0, 0, 0);
        Due.duePlates(Due.plates(4), 0, 0, 0, 0, 0);
    }

    private static void setsAreBits() {
        Due.sentence("Sets of plates are told as bits: bit k is for the plate k.");
        for (int plate = 0; plate < 4; plate++) {
            int bit = 1 << plate;
            SpringPlates x = Due.plates(4);
            x.stop(plate, 0, 12 * (plate + 1) + 1);
            Due.duePlates(x, bit, 0, 0, 0, bit);
            SpringPlates y = Due.plates(4);
            y.stop(plate, 1, 12 * (plate + 1) - 1);
            Due.duePlates(y, 0, bit, 0, 0, bit);
        }
        SpringPlates all = Due.plates(4);
        for (int plate = 0; plate < 4; plate++) {
            all.load(plate, 5);
            all.stop(plate, 0, 60);
            all.stop(plate, 1, 60);
        }
        Due.duePlates(all, 15, 15, 7, 15, 15);
    }

    private static void atLeftStop() {
        Due.sentence("A plate is at its left stop if it has one and rests there");
        SpringPlates x = Due.plates(1);
        x.stop(0, 0, 29);
        Due.duePlates(x, 0, 0, 0, 0, 0);
        x.stop(0, 0, 30);
        Due.duePlates(x, 1, 0, 0, 0, 0);
        x.stop(0, 0, 31);
        Due.duePlates(x, 1, 0, 0, 0, 1);
        x.stop(0, 0, 0);
        x.load(0, -60);
        Due.duePlates(x, 1, 0, 0, 1, 0);
        x.load(0, -59);
        Due.duePlates(x, 0, 0, 0, 0, 0);
        x.load(0, -61);
        Due.duePlates(x, 1, 0, 0, 1, 1);
        x.unstop(0, 0);
        Due.duePlates(x, 0, 0, 0, 1, 1);
    }

    private static void atRightStop() {
        Due.sentence("likewise at its right one");
        SpringPlates x = Due.plates(1);
        x.stop(0, 1, 31);
        Due.duePlates(x, 0, 0, 0, 0, 0);
        x.stop(0, 1, 30);
        Due.duePlates(x, 0, 1, 0, 0, 0);
        x.stop(0, 1, 29);
        Due.duePlates(x, 0, 1, 0, 0, 1);
        x.stop(0, 1, 60);
        x.load(0, 60);
        Due.duePlates(x, 0, 1, 0, 1, 0);
        x.load(0, 59);
        Due.duePlates(x, 0, 0, 0, 0, 0);
        x.load(0, 61);
        Due.duePlates(x, 0, 1, 0, 1, 1);
        x.unstop(0, 1);
        Due.duePlates(x, 0, 0, 0, 1, 1);
    }

    private static void atBothStops() {
        Due.sentence("13: 0: those that are at their left stops; 1: at their right ones");
        SpringPlates x = Due.plates(1);
        x.stop(0, 0, 30);
        x.stop(0, 1, 30);
        Due.duePlates(x, 1, 1, 0, 0, 0);
        x.load(0, 99);
        Due.duePlates(x, 1, 1, 0, 0, 1);
        x.stop(0, 0, 29);
        Due.duePlates(x, 0, 1, 0, 0, 1);
        x.load(0, -99);
        Due.duePlates(x, 1, 0, 0, 0, 1);
        // A plate that rests at the place of another's stop is not at a stop of its own.
        SpringPlates y = Due.plates(2);
        y.stop(0, 0, 40);
        Due.duePlace(y, 1, 50, 1);
        y.load(1, -99);
        Due.duePlace(y, 1, 40, 1);
        due("the second one is not at a stop", y.plates(0), 1);
    }

    private static void touching() {
        Due.sentence("13: 2: those that touch the next one");
        due("just so, without a push", two(30, 0, 30).plates(2), 1);
        due("without a push", two(30, 0, 30).plates(4), 0);
        due("almost", two(30, 0, 29).plates(2), 0);
        due("pushed together", two(30, 0, 31).plates(2), 1);
        due("by both", two(30, 0, 31).plates(4), 3);
        SpringPlates x = Due.plates(4);
        x.stop(3, 1, 0);
        due("the last one has no next one", x.plates(2), 7);
        due("nor is the wall one", Due.plates(1).plates(2), 0);
        SpringPlates y = Due.plates(1);
        y.stop(0, 0, 60);
        due("also if it touches that", y.plates(2), 0);
    }

    private static void atAWall() {
        Due.sentence("13: 3: those that are at a wall");
        int[] loads = {14, 15, 16};
        for (int load : loads) {
            SpringPlates x = Due.plates(4);
            x.load(0, -load);
            // By 15 the first plate moves just by the 12 to the wall.
            due("left by " + load, x.plates(3), load >= 15 ? 1 : 0);
            due("pushed by " + load, x.plates(4), load > 15 ? 1 : 0);
            SpringPlates y = Due.plates(4);
            y.load(3, load);
            due("right by " + load, y.plates(3), load >= 15 ? 8 : 0);
            due("pushed by " + load, y.plates(4), load > 15 ? 8 : 0);
            y.load(0, -99);
            due("both by " + load, y.plates(3) & 1, 1);
        }
        SpringPlates z = Due.plates(1);
        z.load(0, 99);
        z.width(10);
        due("at the least width", z.plates(3), 1);
        z.width(99);
        due("at the greatest width", z.plates(3), 1);
        z.spring(0, 1, 9);
        due("1/2 to the left of it", z.plates(3), 0);
    }

    private static void pushed() {
        Due.sentence("13: 4: those on which there is a push that is not 0");
        SpringPlates x = Due.plates(2);
        x.stop(0, 0, 20);
        x.stop(0, 1, 20);
        due("of itself", x.plates(4), 0);
        x.load(0, 1);
        due("to the right", x.plates(4), 1);
        x.load(0, -1);
        due("to the left", x.plates(4), 1);
        x.load(0, 0);
        x.spring(2, 9, 10);
        due("by springs", x.plates(4), 1);
        // Neighbors that touch, and push each other by 1/2.
        due("by less than 1", two(30, 0, 31).plates(4), 3);
    }

    private static void restIsFoundAnew() {
        Due.sentence("where all plates rest (after each change, and after what is none)");
        SpringPlates x = Due.plates(1);
        Due.duePlace(x, 0, 30, 1);
        x.width(50);
        Due.duePlace(x, 0, 25, 1);
        x.spring(0, 1, 12);
        Due.duePlace(x, 0, 26, 1);
        x.load(0, 2);
        Due.duePlace(x, 0, 27, 1);
        x.stop(0, 0, 28);
        Due.duePlace(x, 0, 28, 1);
        x.load(0, 100);
        x.without(0, 0, 0, 0);
        x.leastLoad(0, 40);
        x.hardest(0);
        Due.duePlace(x, 0, 28, 1);
        x.unstop(0, 0);
        Due.duePlace(x, 0, 27, 1);
        x.undo();
        Due.duePlace(x, 0, 28, 1);
        x.plate();
        Due.duePlace(x, 1, 39, 1);
        x.drop(0);
        // The spring of length 12 is to the left of it.
        Due.duePlace(x, 0, 26, 1);
        Due.withText(x, "f0,4;").play();
        Due.duePlace(x, 0, 28, 1);
    }

    public static void main(String[] args) {
        placeNumbers();
        placeParts();
        placeRoundedDown();
        lowestTerms();
        lowestTermsBesideOthers();
        nothingIsZeroOverOne();
        stopsAreNotPassed();
        stopsOfOthersHold();
        wallsHold();
        platesTouch();
        forcesOfSprings();
        pullNumbers();
        pullWithoutPlates();
        pullAtNoDistance();
        pushNumbers();
        pushByStops();
        pushGreatest();
        pushByNeighbors();
        platesRange();
        platesOfNone();
        setsAreBits();
        atLeftStop();
        atRightStop();
        atBothStops();
        touching();
        atAWall();
        pushed();
        restIsFoundAnew();
        Due.end("rest");
    }
}
