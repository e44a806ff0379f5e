/** The edges of what is laid: promises 1 to 9, and the terms that they stand on, sentence by sentence. */
public final class LaidEdgesTest {
    private static final int INVALID = Due.INVALID;
    private static final int IMPOSSIBLE = Due.IMPOSSIBLE;
    private static final int LIMIT = Due.LIMIT;
    private static final int NONE = Due.NONE;

    private static void due(String what, long got, long want) {
        Due.due(what, got, want);
    }

    /** Each plate and spring with numbers of its own; the left stop of the plate p is at 5 + p, the right one at 30 + p. */
    private static SpringPlates mixed() {
        SpringPlates x = Due.plates(4);
        for (int spring = 0; spring <= 4; spring++) {
            x.spring(spring, spring + 1, 10 * spring);
        }
        for (int plate = 0; plate < 4; plate++) {
            x.load(plate, 10 + plate);
            x.stop(plate, 0, 5 + plate);
            x.stop(plate, 1, 30 + plate);
        }
        return x;
    }

    private static void constants() {
        Due.sentence("The constants");
        due("INVALID_ARGUMENT", SpringPlates.INVALID_ARGUMENT, -1000001);
        due("NOT_POSSIBLE", SpringPlates.NOT_POSSIBLE, -1000002);
        due("LIMIT_REACHED", SpringPlates.LIMIT_REACHED, -1000003);
        due("NOT_FOUND", SpringPlates.NOT_FOUND, -1000004);
    }

    // ---- promise 1

    private static void newObject() {
        Due.sentence("1: Creates two walls with one spring between them.");
        SpringPlates x = new SpringPlates();
        int[] counts = {0, 60, 0, 1000, 0, 0};
        for (int what = 0; what < counts.length; what++) {
            due("count " + what, x.count(what), counts[what]);
        }
        Due.duePull(x, 0, 50, 1);
        due("there is no spring 1", x.pull(1, 0), INVALID);
        due("there is no spring 1 to set", x.spring(1, 1, 10), INVALID);
        Due.duePlates(x, 0, 0, 0, 0, 0);
    }

    private static void newObjectHasNoPlate() {
        Due.sentence("If there is no plate or spring with a certain number, this is INVALID_ARGUMENT.");
        SpringPlates x = new SpringPlates();
        due("drop", x.drop(0), INVALID);
        due("load", x.load(0, 0), INVALID);
        due("stop", x.stop(0, 0, 0), INVALID);
        due("unstop", x.unstop(0, 0), INVALID);
        due("plateOf", x.plateOf(0, 0), INVALID);
        due("place", x.place(0, 0), INVALID);
        due("push", x.push(0, 0), INVALID);
        due("without", x.without(0, 0, 0, 0), INVALID);
        due("leastLoad", x.leastLoad(0, 0), INVALID);
    }

    private static void objectsAreApart() {
        Due.sentence("1: Creates two walls (of its own)");
        SpringPlates x = new SpringPlates();
        SpringPlates y = new SpringPlates();
        x.plate();
        x.width(20);
        x.type('p');
        due("no plate", y.count(0), 0);
        due("width", y.count(1), 60);
        due("no history", y.count(4), 0);
        due("no text", y.count(5), 0);
    }

    // ---- promise 2

    private static void widthAtFirst() {
        Due.sentence("the width (10 to 99; 60 at first)");
        due("to the least", new SpringPlates().width(10), 60);
        due("to the greatest", new SpringPlates().width(99), 60);
        Due.duePull(new SpringPlates(), 0, 60 - 10, 1);
    }

    private static void widthRange() {
        Due.sentence("2: width: 10 to 99");
        Due.range("width", 10, 99, width -> new SpringPlates().width(width));
        SpringPlates x = new SpringPlates();
        due("0", x.width(0), INVALID);
        due("-10", x.width(-10), INVALID);
        due("stays", x.count(1), 60);
    }

    private static void widthReturnsWhatItWas() {
        Due.sentence("2: Returns what it was");
        SpringPlates x = new SpringPlates();
        x.width(10);
        due("10", x.width(99), 10);
        due("99", x.width(99), 99);
        due("to what it is", x.width(10), 99);
        due("is set", x.count(1), 10);
    }

    private static void widthWithAStopBeyond() {
        Due.sentence("2: NOT_POSSIBLE if there is a stop beyond it");
        for (int plate = 0; plate < 4; plate++) {
            for (int side = 0; side < 2; side++) {
                for (int place : new int[] {11, 50, 99}) {
                    SpringPlates x = Due.plates(4);
                    x.width(99);
                    x.stop(plate, side, place);
                    String where = "stop of " + plate + ", side " + side + ", at " + place;
                    due(where + ", beyond", x.width(place - 1), IMPOSSIBLE);
                    due(where + ", far beyond", x.width(10), IMPOSSIBLE);
                    due(where + ", stays", x.count(1), 99);
                    due(where + ", at the wall", x.width(place), 99);
                    x.unstop(plate, side);
                    due(where + ", removed", x.width(10), place);
                }
            }
        }
    }

    private static void widthWithAStopAtTheLeast() {
        Due.sentence("2: INVALID_ARGUMENT if width is out of range (rather than NOT_POSSIBLE)");
        SpringPlates x = Due.plates(1);
        x.stop(0, 0, 10);
        due("at the wall", x.width(10), 60);
        due("too small, with a stop beyond", x.width(9), INVALID);
        due("too great", x.width(100), INVALID);
    }

    private static void widthWithoutItsStop() {
        Due.sentence("2: NOT_POSSIBLE if there is a stop beyond it (there is none any more)");
        SpringPlates x = Due.plates(2);
        x.stop(0, 1, 50);
        x.stop(1, 1, 20);
        due("before", x.width(49), IMPOSSIBLE);
        x.drop(0);
        due("its plate is dropped", x.width(20), 60);
        due("that of the other one is still there", x.width(19), IMPOSSIBLE);
        x.stop(0, 1, 12);
        due("it was set anew", x.width(12), 20);
    }

    private static void widthMovesPlates() {
        Due.sentence("(Without stops the walls do so.)");
        SpringPlates x = Due.plates(1);
        x.load(0, 99);
        Due.duePlace(x, 0, 60, 1);
        due("a plate beyond is no stop beyond", x.width(10), 60);
        Due.duePlace(x, 0, 10, 1);
        x.width(99);
        Due.duePlace(x, 0, 99, 1);
    }

    // ---- promise 3

    private static void plateNumbers() {
        Due.sentence("There are at most 4 plates, numbered from 0 from the left to the right.");
        SpringPlates x = new SpringPlates();
        for (int plate = 0; plate < 4; plate++) {
            due("number", x.plate(), plate);
            due("plates", x.count(0), plate + 1);
        }
        for (int plate = 0; plate < 4; plate++) {
            Due.duePlace(x, plate, 12 * (plate + 1), 1);
        }
    }

    private static void plateLimit() {
        Due.sentence("3: LIMIT_REACHED if there are 4");
        SpringPlates x = Due.plates(3);
        due("the fourth", x.plate(), 3);
        due("a fifth", x.plate(), LIMIT);
        due("again", x.plate(), LIMIT);
        due("still 4", x.count(0), 4);
        x.drop(1);
        due("after a drop", x.plate(), 3);
        due("then not", x.plate(), LIMIT);
        x.undo();
        due("after an undo", x.plate(), 3);
    }

    private static void plateHasANewSpring() {
        Due.sentence("3: Adds a plate to the right of all others, with a new spring to the right of it (strength 1, length 10).");
        for (int plates = 0; plates < 4; plates++) {
            SpringPlates x = Due.plates(plates);
            x.spring(plates, 9, 50);
            x.plate();
            due("the old last spring is to the left", Due.springOf(x, plates, 0), 950);
            due("the new one to the right", Due.springOf(x, plates, 1), 110);
            due("no load", x.plateOf(plates, 0), 1000);
            due("no left stop", x.plateOf(plates, 1), NONE);
            due("no right stop", x.plateOf(plates, 2), NONE);
        }
    }

    private static void plateAfterADrop() {
        Due.sentence("3: (strength 1, length 10), load 0 at first, also where a plate was dropped");
        for (int plate = 0; plate < 4; plate++) {
            SpringPlates x = mixed();
            x.drop(plate);
            due("number", x.plate(), 3);
            due("load", x.plateOf(3, 0), 1000);
            due("left stop", x.plateOf(3, 1), NONE);
            due("right stop", x.plateOf(3, 2), NONE);
            due("spring", Due.springOf(x, 3, 1), 110);
        }
    }

    // ---- promise 4

    private static void dropNumbers() {
        Due.sentence("4: plate: number of the plate; INVALID_ARGUMENT");
        Due.plateNumbers("drop", (x, plate) -> x.drop(plate));
    }

    private static void dropCounts() {
        Due.sentence("4: Returns how many plates there are then");
        SpringPlates x = Due.plates(4);
        for (int left = 3; left >= 0; left--) {
            due("there are then", x.drop(left / 2), left);
            due("count", x.count(0), left);
            due("behind the last one", x.drop(left), INVALID);
        }
    }

    private static void dropEach() {
        Due.sentence("4: Drops a plate, and the spring to the right of it; those behind have numbers that are less by 1.");
        for (int dropped = 0; dropped < 4; dropped++) {
            SpringPlates x = mixed();
            x.drop(dropped);
            for (int plate = 0; plate < 3; plate++) {
                int was = plate < dropped ? plate : plate + 1;
                String which = "of " + dropped + ", then " + plate;
                due(which + ", load", x.plateOf(plate, 0), 1010 + was);
                due(which + ", left stop", x.plateOf(plate, 1), 5 + was);
                due(which + ", right stop", x.plateOf(plate, 2), 30 + was);
            }
            for (int spring = 0; spring <= 3; spring++) {
                int was = spring <= dropped ? spring : spring + 1;
                due("of " + dropped + ", spring " + spring, x.spring(spring, 1, 1), 100 * (was + 1) + 10 * was);
            }
            due("of " + dropped + ", there is no spring 4", x.spring(4, 1, 1), INVALID);
        }
    }

    private static void dropTheOnlyOne() {
        Due.sentence("4: Drops a plate, and the spring to the right of it (the only one)");
        SpringPlates x = Due.plates(1);
        x.spring(0, 2, 20);
        x.spring(1, 3, 30);
        due("none is left", x.drop(0), 0);
        Due.duePull(x, 0, 2 * 40, 1);
        due("one spring", x.spring(1, 1, 1), INVALID);
        due("that of the left wall", x.spring(0, 1, 1), 220);
    }

    // ---- promise 5

    private static void springAtFirst() {
        Due.sentence("A spring has a strength (1 to 9; 1 at first) and a length (0 to 50; 10 at first).");
        for (int plates = 0; plates <= 4; plates++) {
            for (int spring = 0; spring <= plates; spring++) {
                due("at first", Due.plates(plates).spring(spring, 5, 5), 110);
            }
        }
    }

    private static void springNumbers() {
        Due.sentence("If there are n plates, there are the springs 0 to n");
        Due.springNumbers("spring", (x, spring) -> x.spring(spring, 2, 20));
        Due.sentence("5: INVALID_ARGUMENT if an argument is out of range (also one that sets nothing else)");
        due("a spring behind the last plate's", Due.plates(4).spring(5, 1, 10), INVALID);
    }

    private static void springStrengths() {
        Due.sentence("5: strength: 1 to 9");
        for (int spring = 0; spring <= 4; spring++) {
            int which = spring;
            Due.range("strength", 1, 9, strength -> Due.plates(4).spring(which, strength, 10));
        }
    }

    private static void springLengths() {
        Due.sentence("5: length: 0 to 50");
        for (int spring = 0; spring <= 4; spring++) {
            int which = spring;
            Due.range("length", 0, 50, length -> Due.plates(4).spring(which, 1, length));
        }
    }

    private static void springReturnsWhatItWas() {
        Due.sentence("5: Returns 100 times its strength plus its length, as they were");
        SpringPlates x = new SpringPlates();
        due("at first", x.spring(0, 1, 0), 110);
        due("the least", x.spring(0, 9, 50), 100);
        due("the greatest", x.spring(0, 9, 50), 950);
        due("to what it is", x.spring(0, 1, 50), 950);
        due("the least strength, the greatest length", x.spring(0, 9, 0), 150);
        due("the greatest strength, the least length", x.spring(0, 1, 10), 900);
    }

    private static void springAlone() {
        Due.sentence("5: Sets a spring. (that one alone)");
        for (int set = 0; set <= 4; set++) {
            SpringPlates x = mixed();
            x.spring(set, 9, 50);
            for (int spring = 0; spring <= 4; spring++) {
                due("spring " + spring, x.spring(spring, 1, 1), spring == set ? 950 : 100 * (spring + 1) + 10 * spring);
            }
        }
    }

    // ---- promise 6

    private static void loadNumbers() {
        Due.sentence("6: plate: number of the plate");
        Due.plateNumbers("load", (x, plate) -> x.load(plate, 5));
    }

    private static void loadRange() {
        Due.sentence("6: load: -99 to 99");
        for (int plate = 0; plate < 4; plate++) {
            int which = plate;
            Due.range("load", -99, 99, load -> Due.plates(4).load(which, load));
        }
    }

    private static void loadReturnsWhatItWas() {
        Due.sentence("6: Returns what it was plus 1000");
        SpringPlates x = Due.plates(1);
        due("0 at first", x.load(0, -99), 1000);
        due("the least", x.load(0, 99), 901);
        due("the greatest", x.load(0, 99), 1099);
        due("to what it is", x.load(0, -1), 1099);
        due("below 0", x.load(0, 0), 999);
        due("0", x.load(0, 0), 1000);
    }

    private static void loadAlone() {
        Due.sentence("6: Sets the load of a plate. (of that one alone)");
        for (int set = 0; set < 4; set++) {
            SpringPlates x = mixed();
            due("as it was", x.load(set, -99), 1010 + set);
            for (int plate = 0; plate < 4; plate++) {
                due("load of " + plate, x.plateOf(plate, 0), plate == set ? 901 : 1010 + plate);
            }
        }
    }

    // ---- promise 7

    private static void stopNumbers() {
        Due.sentence("7: plate: number of the plate");
        Due.plateNumbers("left stop", (x, plate) -> x.stop(plate, 0, 30));
        Due.plateNumbers("right stop", (x, plate) -> x.stop(plate, 1, 30));
    }

    private static void stopSides() {
        Due.sentence("7: side: 0: the left one; 1: the right one");
        for (int plate = 0; plate < 4; plate++) {
            int which = plate;
            Due.range("side", 0, 1, side -> Due.plates(4).stop(which, side, 30));
            SpringPlates x = Due.plates(4);
            x.stop(plate, 0, 20);
            due("the left one", x.plateOf(plate, 1), 20);
            due("no right one", x.plateOf(plate, 2), NONE);
            SpringPlates y = Due.plates(4);
            y.stop(plate, 1, 20);
            due("no left one", y.plateOf(plate, 1), NONE);
            due("the right one", y.plateOf(plate, 2), 20);
        }
    }

    private static void stopPlaces() {
        Due.sentence("7: place: 0 to the width");
        for (int width : new int[] {10, 60, 99}) {
            for (int side = 0; side < 2; side++) {
                int which = side;
                Due.range("place, width " + width + ", side " + side, 0, width, place -> {
                    SpringPlates x = Due.plates(4);
                    x.width(width);
                    return x.stop(2, which, place);
                });
            }
        }
    }

    private static void stopReturnsWhereItWas() {
        Due.sentence("7: Returns the place where it was, or -1 if there was none");
        for (int side = 0; side < 2; side++) {
            SpringPlates x = Due.plates(1);
            due("none", x.stop(0, side, 0), -1);
            due("at 0", x.stop(0, side, 60), 0);
            due("at the width", x.stop(0, side, 60), 60);
            due("to where it is", x.stop(0, side, 1), 60);
            due("at 1", x.stop(0, side, 2), 1);
            x.unstop(0, side);
            due("none again", x.stop(0, side, 3), -1);
            due("no other one", x.count(2), 1);
        }
    }

    private static void stopsOfOnePlate() {
        Due.sentence("7: NOT_POSSIBLE if no row of places would be allowed (by both stops of a plate)");
        for (int plate = 0; plate < 4; plate++) {
            for (int place : new int[] {1, 30, 60}) {
                SpringPlates x = Due.plates(4);
                x.stop(plate, 0, place);
                due("the right one to the left of it", x.stop(plate, 1, place - 1), IMPOSSIBLE);
                due("is not set", x.plateOf(plate, 2), NONE);
                due("at it", x.stop(plate, 1, place), -1);
                due("moved to the left of it", x.stop(plate, 1, place - 1), IMPOSSIBLE);
                due("is where it was", x.plateOf(plate, 2), place);
            }
            for (int place : new int[] {0, 30, 59}) {
                SpringPlates x = Due.plates(4);
                x.stop(plate, 1, place);
                due("the left one to the right of it", x.stop(plate, 0, place + 1), IMPOSSIBLE);
                due("is not set", x.plateOf(plate, 1), NONE);
                due("at it", x.stop(plate, 0, place), -1);
                due("moved to the right of it", x.stop(plate, 0, place + 1), IMPOSSIBLE);
                due("is where it was", x.plateOf(plate, 1), place);
            }
        }
    }

    private static void stopsOfTwoPlates() {
        Due.sentence("7: NOT_POSSIBLE if no row of places would be allowed (as plates cannot pass one another)");
        for (int ahead = 0; ahead < 4; ahead++) {
            for (int behind = ahead + 1; behind < 4; behind++) {
                SpringPlates x = Due.plates(4);
                x.stop(ahead, 0, 30);
                due("right stop behind, to the left", x.stop(behind, 1, 29), IMPOSSIBLE);
                due("right stop behind, at it", x.stop(behind, 1, 30), -1);
                SpringPlates y = Due.plates(4);
                y.stop(behind, 1, 30);
                due("left stop ahead, to the right", y.stop(ahead, 0, 31), IMPOSSIBLE);
                due("left stop ahead, at it", y.stop(ahead, 0, 30), -1);
                SpringPlates z = Due.plates(4);
                z.stop(behind, 0, 60);
                due("right stop ahead, far to the left", z.stop(ahead, 1, 0), -1);
                due("left stop ahead, at 0", z.stop(ahead, 0, 0), -1);
                due("right stop behind, at the width", z.stop(behind, 1, 60), -1);
                due("as many stops", z.count(2), 4);
            }
        }
    }

    private static void stopMovedBeyond() {
        Due.sentence("7: NOT_POSSIBLE if no row of places would be allowed (the old place does not count)");
        SpringPlates x = Due.plates(2);
        x.stop(0, 0, 40);
        x.stop(1, 1, 50);
        due("away to the left", x.stop(0, 0, 10), 40);
        due("then there is room", x.stop(1, 1, 10), 50);
        due("and no more of it", x.stop(1, 1, 9), IMPOSSIBLE);
        x.drop(0);
        due("but without the other plate", x.stop(0, 1, 9), 10);
    }

    private static void stopErrors() {
        Due.sentence("7: INVALID_ARGUMENT if an argument is out of range (rather than NOT_POSSIBLE)");
        SpringPlates x = Due.plates(1);
        x.stop(0, 1, 10);
        due("beyond the width and the right one", x.stop(0, 0, 61), INVALID);
        due("to the right of the right one", x.stop(0, 0, 60), IMPOSSIBLE);
        x.unstop(0, 1);
        x.stop(0, 0, 10);
        due("below 0 and the left one", x.stop(0, 1, -1), INVALID);
        due("to the left of the left one", x.stop(0, 1, 0), IMPOSSIBLE);
        due("no such plate", x.stop(1, 1, 0), INVALID);
        due("no such side", x.stop(0, 2, 0), INVALID);
    }

    // ---- promise 8

    private static void unstopNumbers() {
        Due.sentence("8: plate: number of the plate; side: 0: the left one; 1: the right one");
        Due.plateNumbers("left unstop", (x, plate) -> x.unstop(plate, 0));
        Due.plateNumbers("right unstop", (x, plate) -> x.unstop(plate, 1));
        for (int plate = 0; plate < 4; plate++) {
            int which = plate;
            Due.range("side", 0, 1, side -> Due.plates(4).unstop(which, side));
            Due.range("side of one with stops", 0, 1, side -> mixed().unstop(which, side));
        }
    }

    private static void unstopEach() {
        Due.sentence("8: Returns the place where it was");
        for (int plate = 0; plate < 4; plate++) {
            for (int side = 0; side < 2; side++) {
                SpringPlates x = mixed();
                due("place", x.unstop(plate, side), 5 + 25 * side + plate);
                due("it is gone", x.plateOf(plate, 1 + side), NONE);
                due("the other one is not", x.plateOf(plate, 2 - side), 30 - 25 * side + plate);
                due("one less", x.count(2), 7);
            }
        }
        SpringPlates y = Due.plates(1);
        y.stop(0, 0, 0);
        due("at 0", y.unstop(0, 0), 0);
        y.stop(0, 1, 60);
        due("at the width", y.unstop(0, 1), 60);
    }

    private static void unstopNone() {
        Due.sentence("8: NOT_POSSIBLE if there is none");
        for (int plate = 0; plate < 4; plate++) {
            for (int side = 0; side < 2; side++) {
                SpringPlates x = Due.plates(4);
                due("none", x.unstop(plate, side), IMPOSSIBLE);
                x.stop(plate, 1 - side, 30);
                due("the other one alone", x.unstop(plate, side), IMPOSSIBLE);
                x.stop(plate, side, 30);
                x.unstop(plate, side);
                due("removed already", x.unstop(plate, side), IMPOSSIBLE);
            }
        }
    }

    // ---- promise 9

    private static void plateOfNumbers() {
        Due.sentence("9: plate: number of the plate; INVALID_ARGUMENT if an argument is out of range");
        for (int what = 0; what <= 6; what++) {
            int which = what;
            Due.plateNumbers("plateOf, what " + what, (x, plate) -> x.plateOf(plate, which));
        }
        for (int plate = 0; plate < 4; plate++) {
            int which = plate;
            Due.range("what", 0, 6, what -> mixed().plateOf(which, what));
        }
    }

    private static void plateOfEach() {
        Due.sentence("9: 0: its load plus 1000; 1: its left stop; 2: its right stop; 3: the strength of the spring to the left of it;"
                + " 4: the length of that; 5 and 6: likewise of the spring to the right");
        SpringPlates x = mixed();
        for (int plate = 0; plate < 4; plate++) {
            int[] want = {1010 + plate, 5 + plate, 30 + plate, plate + 1, 10 * plate, plate + 2, 10 * plate + 10};
            for (int what = 0; what < want.length; what++) {
                due("plateOf " + plate + ", " + what, x.plateOf(plate, what), want[what]);
            }
        }
    }

    private static void plateOfLeastAndGreatest() {
        Due.sentence("9: Returns the number (the least and the greatest ones)");
        SpringPlates x = Due.plates(1);
        x.width(99);
        x.load(0, -99);
        x.stop(0, 0, 0);
        x.stop(0, 1, 0);
        x.spring(0, 1, 0);
        x.spring(1, 9, 50);
        int[] want = {901, 0, 0, 1, 0, 9, 50};
        for (int what = 0; what < want.length; what++) {
            due("what " + what, x.plateOf(0, what), want[what]);
        }
        x.load(0, 99);
        x.stop(0, 1, 99);
        x.stop(0, 0, 99);
        due("greatest load", x.plateOf(0, 0), 1099);
        due("greatest left stop", x.plateOf(0, 1), 99);
        due("greatest right stop", x.plateOf(0, 2), 99);
    }

    private static void plateOfNone() {
        Due.sentence("9: NOT_FOUND for 1 and 2 if there is none");
        for (int plate = 0; plate < 4; plate++) {
            SpringPlates x = Due.plates(4);
            due("left", x.plateOf(plate, 1), NONE);
            due("right", x.plateOf(plate, 2), NONE);
            x.stop(plate, 0, 0);
            due("left at 0", x.plateOf(plate, 1), 0);
            due("right still", x.plateOf(plate, 2), NONE);
            x.unstop(plate, 0);
            x.stop(plate, 1, 0);
            due("left again", x.plateOf(plate, 1), NONE);
            due("right at 0", x.plateOf(plate, 2), 0);
        }
    }

    public static void main(String[] args) {
        constants();
        newObject();
        newObjectHasNoPlate();
        objectsAreApart();
        widthAtFirst();
        widthRange();
        widthReturnsWhatItWas();
        widthWithAStopBeyond();
        widthWithAStopAtTheLeast();
        widthWithoutItsStop();
        widthMovesPlates();
        plateNumbers();
        plateLimit();
        plateHasANewSpring();
        plateAfterADrop();
        dropNumbers();
        dropCounts();
        dropEach();
        dropTheOnlyOne();
        springAtFirst();
        springNumbers();
        springStrengths();
        springLengths();
        springReturnsWhatItWas();
        springAlone();
        loadNumbers();
        loadRange();
        loadReturnsWhatItWas();
        loadAlone();
        stopNumbers();
        stopSides();
        stopPlaces();
        stopReturnsWhereItWas();
        stopsOfOnePlate();
        stopsOfTwoPlates();
        stopMovedBeyond();
        stopErrors();
        unstopNumbers();
        unstopEach();
        unstopNone();
        plateOfNumbers();
        plateOfEach();
        plateOfLeastAndGreatest();
        plateOfNone();
        Due.end("what is laid");
    }
}
