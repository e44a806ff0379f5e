/** The edges of texts: promises 19 to 22, and the terms that they stand on, sentence by sentence. */
public final class TextEdgesTest {
    private static final int INVALID = Due.INVALID;
    private static final int IMPOSSIBLE = Due.IMPOSSIBLE;
    private static final int LIMIT = Due.LIMIT;
    private static final int NONE = Due.NONE;
    private static final int MOST = 60;

    private static void due(String what, long got, long want) {
        Due.due(what, got, want);
    }

    private static void dueFaultOf(SpringPlates x, String text, int position, int reason, int cause) {
        Due.withText(x, text);
        String of = " of " + text + ", " + x.count(0) + " plates";
        due("position" + of, x.fault(0), position);
        due("reason" + of, x.fault(1), reason);
        due("cause" + of, x.fault(2), cause);
        due("play" + of, x.play(), IMPOSSIBLE);
    }

    private static void dueFault(String text, int position, int reason, int cause) {
        dueFaultOf(new SpringPlates(), text, position, reason, cause);
    }

    private static void dueNoFaultOf(SpringPlates x, String text, int settings) {
        Due.withText(x, text);
        String of = " of " + text + ", " + x.count(0) + " plates";
        for (int what = 0; what <= 2; what++) {
            due("fault " + what + of, x.fault(what), NONE);
        }
        due("play" + of, x.play(), settings);
    }

    private static void dueNoFault(String text, int settings) {
        dueNoFaultOf(new SpringPlates(), text, settings);
    }

    // ---- promises 19 and 20

    private static void typeRange() {
        Due.sentence("19: character: 32 to 126");
        Due.range("character", 32, 126, character -> new SpringPlates().type(character));
        Due.range("character behind others", 32, 126, character -> Due.withText(new SpringPlates(), "p;").type(character));
        for (int character : new int[] {0, 9, 10, 128, 160, 255, 256 + 'p', 65536 + 'p', -'p'}) {
            due("character " + character, new SpringPlates().type(character), INVALID);
        }
    }

    private static void typeLimit() {
        Due.sentence("19: Returns the length of the text; LIMIT_REACHED if it has 60 characters.");
        SpringPlates x = new SpringPlates();
        for (int length = 1; length <= MOST; length++) {
            due("length", x.type('p'), length);
        }
        due("one more", x.type('p'), LIMIT);
        due("again", x.type(32), LIMIT);
        due("the length stays", x.count(5), MOST);
        due("cleared", x.clearText(), MOST);
        due("from the start", x.type(126), 1);
    }

    private static void typeLimitAndRange() {
        Due.sentence("19: INVALID_ARGUMENT if character is out of range (rather than LIMIT_REACHED)");
        SpringPlates x = Due.withText(new SpringPlates(), "p".repeat(MOST));
        due("below", x.type(31), INVALID);
        due("above", x.type(127), INVALID);
        due("the least", x.type(32), LIMIT);
        due("the greatest", x.type(126), LIMIT);
    }

    private static void typedInOrder() {
        Due.sentence("19: Appends a character to the text.");
        SpringPlates x = new SpringPlates();
        x.type('w');
        x.type('1');
        x.type('2');
        x.type(';');
        due("one setting", x.play(), 1);
        due("12, not 21", x.count(1), 12);
        x.type('p');
        due("the next one's position", x.fault(0), 4);
        x.type(';');
        due("two", x.play(), 2);
    }

    private static void clearTexts() {
        Due.sentence("20: Empties the text. Returns the length it had.");
        SpringPlates x = new SpringPlates();
        due("empty", x.clearText(), 0);
        x.type('w');
        due("1", x.clearText(), 1);
        due("empty again", x.clearText(), 0);
        due("no fault any more", x.fault(0), NONE);
        Due.withText(x, "q".repeat(MOST));
        due("a fault", x.fault(0), 0);
        due("60", x.clearText(), MOST);
        due("the length", x.count(5), 0);
        due("plays none", x.play(), 0);
        dueNoFaultOf(x, "p;", 1);
    }

    // ---- promise 21

    private static void faultRange() {
        Due.sentence("21: INVALID_ARGUMENT if what is out of range");
        Due.range("what, empty text", 0, 2, what -> new SpringPlates().fault(what));
        Due.range("what, no fault", 0, 2, what -> Due.withText(new SpringPlates(), "p;").fault(what));
        Due.range("what, a fault", 0, 2, what -> Due.withText(new SpringPlates(), "p").fault(what));
    }

    private static void faultOfNone() {
        Due.sentence("21: NOT_FOUND if the text has no fault (also if it is empty)");
        dueNoFault("", 0);
        dueNoFault("p;", 1);
        dueNoFault("w10;p;p;p;p;", 5);
        SpringPlates x = new SpringPlates();
        x.type('p');
        due("too short", x.fault(0), 0);
        x.type(';');
        due("then not", x.fault(0), NONE);
    }

    private static void faultOfReason3() {
        Due.sentence("21: NOT_FOUND for 2 if the reason is 3");
        SpringPlates x = Due.withText(Due.plates(4), "p;");
        due("position", x.fault(0), 0);
        due("reason", x.fault(1), 3);
        due("cause", x.fault(2), NONE);
        Due.withText(x, "w9;");
        due("cause of another", x.fault(2), 0);
        Due.withText(x, "p;");
        due("cause again", x.fault(2), NONE);
    }

    /** Each form, with numbers of 1 and of 2 digits. */
    private static final String[] FORMS = {"w10;", "p;", "k0,1,0;", "k00,01,00;", "k1,9,50;", "f0,1;", "f00,99;", "f1,-9;",
        "f01,-99;", "f0,-0;", "l0,0;", "l01,60;", "r1,9;", "r00,60;", "x0;", "x01;"};

    private static void formsThatAreTaken() {
        Due.sentence("settings, each followed by \";\"");
        for (String form : FORMS) {
            dueNoFaultOf(Due.plates(2), form, 1);
        }
    }

    private static void endsTooEarly() {
        Due.sentence("(of one that the text ends too early it is its length)");
        for (String form : FORMS) {
            for (int length = 1; length < form.length(); length++) {
                String setting = form.substring(0, length);
                dueFaultOf(Due.plates(2), setting, 0, 1, length);
                dueFaultOf(Due.plates(2), "x0;w60;" + setting, 7, 1, length);
            }
        }
    }

    private static void breaksOff() {
        Due.sentence("The cause of a fault with the reason 1 is at which character of the setting, from 0, it breaks off");
        for (String form : FORMS) {
            for (int at = 0; at < form.length(); at++) {
                for (char odd : new char[] {' ', '~', '/', ':', '+', '.', 'z', 'W'}) {
                    String setting = form.substring(0, at) + odd + form.substring(at + 1);
                    dueFaultOf(Due.plates(2), setting, 0, 1, at);
                    dueFaultOf(Due.plates(2), "p;" + setting + "p;", 2, 1, at);
                }
            }
        }
    }

    private static void breaksOffAtOtherSigns() {
        Due.sentence("it is not of this form, its \";\" included");
        String[] settings = {";", ",", "-", "0", "9", " p;", "p ;", "p,;", "p0;", "p-;", "w;", "w,10;", "w-10;", "w10,;", "w1-0;",
            "k;", "k,1,1;", "k0;", "k0-1,1;", "k-0,1,1;", "k0,;", "k0,,1;", "k0,-1,1;", "k0,1;", "k0,1,;", "k0,1,-1;", "k0,1,1,1;",
            "f;", "f,1;", "f-0,1;", "f0;", "f0-1;", "f0,;", "f0,-;", "f0,--1;", "f0,1-;", "f0,1,1;", "f0,-1,;",
            "l;", "l0;", "l0,;", "l0,-1;", "l0,1,1;", "r;", "r0;", "r0,;", "r0,-1;", "r0,1,1;", "x;", "x-0;", "x0,;", "x0,1;"};
        int[] causes = {0, 0, 0, 0, 0, 0, 1, 1, 1, 1, 1, 1, 1, 3, 2,
            1, 1, 2, 2, 1, 3, 3, 3, 4, 5, 5, 6,
            1, 1, 1, 2, 2, 3, 4, 4, 4, 4, 5,
            1, 2, 3, 3, 4, 1, 2, 3, 3, 4, 1, 1, 2, 2};
        for (int i = 0; i < settings.length; i++) {
            dueFaultOf(Due.plates(1), settings[i], 0, 1, causes[i]);
        }
    }

    private static void letters() {
        Due.sentence("\"w\", \"p\", \"k\", \"f\", \"l\", \"r\", \"x\" (no others)");
        for (char letter = 32; letter <= 126; letter++) {
            if ("wpkflrx".indexOf(letter) < 0) {
                dueFaultOf(Due.plates(1), letter + "0;", 0, 1, 0);
            }
        }
    }

    private static void numbersOfDigits() {
        Due.sentence("numbers of 1 or 2 digits, 0 ahead allowed");
        dueNoFaultOf(Due.plates(2), "w99;w10;w60;k1,1,0;k01,01,00;k1,9,50;k00,09,09;", 7);
        dueNoFaultOf(Due.plates(2), "f0,1;f00,01;f0,99;l0,0;l00,00;l01,09;r1,60;x0;x01;", 9);
        SpringPlates x = Due.withText(Due.plates(2), "f01,09;l00,08;k02,03,07;");
        due("play", x.play(), 3);
        due("09", x.plateOf(1, 0), 1009);
        due("08", x.plateOf(0, 1), 8);
        due("03 and 07", Due.springOf(x, 1, 1), 307);
        String[] settings = {"w100;", "w010;", "k000,1,1;", "k0,001,1;", "k0,1,001;", "k10,10,100;", "f000,1;", "f0,001;", "f0,100;",
            "f0,-100;", "f0,-001;", "l000,1;", "l0,001;", "l00,100;", "r000,1;", "r0,001;", "x000;", "x100;"};
        int[] causes = {3, 3, 3, 5, 7, 9, 3, 5, 5, 6, 6, 3, 5, 6, 3, 5, 3, 3};
        for (int i = 0; i < settings.length; i++) {
            dueFaultOf(Due.plates(1), settings[i], 0, 1, causes[i]);
        }
    }

    private static void minusAheadOfALoad() {
        Due.sentence("a load (\"-\" may stand ahead of it, also of 0)");
        String[] texts = {"f0,0;", "f0,-0;", "f0,00;", "f0,-00;", "f0,1;", "f0,-1;", "f0,-01;", "f0,99;", "f0,-99;"};
        int[] loads = {0, 0, 0, 0, 1, -1, -1, 99, -99};
        for (int i = 0; i < texts.length; i++) {
            SpringPlates x = Due.plates(1);
            x.load(0, 50);
            dueNoFaultOf(x, texts[i], 1);
            due("load by " + texts[i], x.plateOf(0, 0), 1000 + loads[i]);
        }
    }

    private static void widthOutOfRange() {
        Due.sentence("2 if a number is out of its range (\"w\" a number (the width), 10 to 99)");
        for (String text : new String[] {"w0;", "w00;", "w1;", "w9;", "w09;"}) {
            dueFault(text, 0, 2, 0);
        }
        dueNoFault("w10;", 1);
        dueNoFault("w99;", 1);
    }

    private static void noSuchPlate() {
        Due.sentence("2 if ... there is no such plate or spring");
        for (int plates = 0; plates <= 4; plates++) {
            for (int number : new int[] {plates, plates + 1, 10, 99}) {
                dueFaultOf(Due.plates(plates), "f" + number + ",5;", 0, 2, 0);
                dueFaultOf(Due.plates(plates), "l" + number + ",5;", 0, 2, 0);
                dueFaultOf(Due.plates(plates), "r" + number + ",5;", 0, 2, 0);
                dueFaultOf(Due.plates(plates), "x" + number + ";", 0, 2, 0);
                dueFaultOf(Due.plates(plates), "k" + (number + 1 - number / 99) + ",5,5;", 0, 2, 0);
            }
            for (int plate = 0; plate < plates; plate++) {
                dueNoFaultOf(Due.plates(plates), "f" + plate + ",5;l" + plate + ",5;r" + plate + ",5;x" + plate + ";", 4);
            }
            for (int spring = 0; spring <= plates; spring++) {
                dueNoFaultOf(Due.plates(plates), "k" + spring + ",5,5;", 1);
            }
        }
    }

    private static void springOutOfRange() {
        Due.sentence("2 if a number is out of its range (\"k\" a spring, \",\", a strength (1 to 9), \",\", a length (0 to 50))");
        dueNoFault("k0,1,0;", 1);
        dueNoFault("k0,9,50;", 1);
        dueFault("k0,0,0;", 0, 2, 1);
        dueFault("k0,00,50;", 0, 2, 1);
        dueFault("k0,10,50;", 0, 2, 1);
        dueFault("k0,99,0;", 0, 2, 1);
        dueFault("k0,1,51;", 0, 2, 2);
        dueFault("k0,9,99;", 0, 2, 2);
    }

    private static void placeOutOfRange() {
        Due.sentence("2 if a number is out of its range (\"l\" or \"r\" a plate, \",\", a place (0 to the width))");
        for (String side : new String[] {"l", "r"}) {
            for (int width : new int[] {10, 60, 98}) {
                SpringPlates x = Due.plates(1);
                x.width(width);
                dueFaultOf(x, side + "0," + (width + 1) + ";", 0, 2, 1);
                dueFaultOf(x, side + "0,99;", 0, 2, 1);
                dueNoFaultOf(x, side + "0," + width + ";", 1);
                dueNoFaultOf(x, side + "0,0;", 1);
                dueFaultOf(x, "w" + (width + 1) + ";w10;" + side + "0,11;", 8, 2, 1);
                dueNoFaultOf(x, "w" + (width + 1) + ";" + side + "0," + (width + 1) + ";", 2);
            }
        }
    }

    private static void theFirstNumber() {
        Due.sentence("with the reason 2 which of its numbers is out of its range, from 0, the first one");
        dueFault("k1,0,51;", 0, 2, 0);
        dueFault("k1,0,50;", 0, 2, 0);
        dueFault("k1,1,51;", 0, 2, 0);
        dueFault("k0,0,51;", 0, 2, 1);
        dueFault("k0,10,51;", 0, 2, 1);
        dueFault("l0,61;", 0, 2, 0);
        dueFault("r0,61;", 0, 2, 0);
        dueFault("f0,99;", 0, 2, 0);
        dueFault("p;l0,61;", 2, 2, 1);
        dueFault("p;r0,61;", 2, 2, 1);
        dueFault("p;l1,61;", 2, 2, 0);
    }

    private static void otherwise() {
        Due.sentence("3 if it is not possible otherwise");
        dueFaultOf(Due.plates(4), "p;", 0, 3, NONE);
        dueNoFaultOf(Due.plates(3), "p;", 1);
        dueFaultOf(Due.plates(3), "p;p;", 2, 3, NONE);
        for (int side = 0; side < 2; side++) {
            SpringPlates x = Due.plates(2);
            x.stop(side, 1 - side, 30);
            // The first one's right stop, then the second one's left one.
            dueFaultOf(x, "w29;", 0, 3, NONE);
            dueNoFaultOf(x, "w30;", 1);
        }
        SpringPlates y = Due.plates(2);
        y.stop(0, 0, 30);
        dueFaultOf(y, "r0,29;", 0, 3, NONE);
        dueFaultOf(y, "r1,29;", 0, 3, NONE);
        dueNoFaultOf(y, "r1,30;r0,30;", 2);
        dueFaultOf(y, "l1,31;", 0, 3, NONE);
        dueFaultOf(y, "l0,31;", 0, 3, NONE);
        dueNoFaultOf(y, "l1,30;l0,29;", 2);
    }

    private static void reasonsInOrder() {
        Due.sentence("its reason is 1 if ..., 2 if ..., and 3 if it is not possible otherwise");
        // Also out of range, but not of the form; also not possible otherwise, but out of range.
        dueFault("k9,0,99", 0, 1, 7);
        dueFault("w9", 0, 1, 2);
        dueFault("w9p;", 0, 1, 2);
        dueFault("x0x;", 0, 1, 2);
        dueFault("l9,99,;", 0, 1, 5);
        SpringPlates x = Due.plates(1);
        x.stop(0, 0, 20);
        dueFaultOf(x, "w9;", 0, 2, 0);
        dueFaultOf(x, "w19;", 0, 3, NONE);
        x.stop(0, 1, 30);
        dueFaultOf(x, "l0,61;", 0, 2, 1);
        dueFaultOf(x, "l0,60;", 0, 3, NONE);
        dueFaultOf(x, "l0,31", 0, 1, 5);
        dueFaultOf(Due.plates(4), "p", 0, 1, 1);
        dueFaultOf(Due.plates(4), "p0;", 0, 1, 1);
    }

    private static void theFirstFault() {
        Due.sentence("The fault of the text is the position, from 0, of the first character of the first setting that is not possible");
        dueFault("w9;q", 0, 2, 0);
        dueFault("w10;w9;q", 4, 2, 0);
        dueFault("q;w9;", 0, 1, 0);
        dueFault("p;p;p;p;p;q;", 8, 3, NONE);
        dueFault("p;;p;", 2, 1, 0);
        dueFault("p;p;;", 4, 1, 0);
        dueFault("x0;p;", 0, 2, 0);
    }

    private static void whenThoseAheadAreDone() {
        Due.sentence("when those ahead of it are done");
        dueNoFault("p;f0,1;k1,1,1;l0,1;r0,1;x0;", 6);
        dueFault("p;f1,1;", 2, 2, 0);
        dueFault("p;k2,1,1;", 2, 2, 0);
        dueNoFault("w99;p;l0,99;", 3);
        dueFault("p;w50;l0,51;", 6, 2, 1);
        dueNoFault("p;l0,30;x0;w29;r0,28;", 5);
        dueFault("p;l0,30;w29;", 8, 3, NONE);
        dueFault("p;p;l0,30;x1;r1,29;", 13, 3, NONE);
        dueNoFault("p;p;l0,30;x0;r1,29;", 5);
        dueNoFault("p;r0,20;l0,10;r0,10;", 4);
        dueFault("p;r0,20;l0,10;r0,9;", 14, 3, NONE);
        SpringPlates x = Due.withText(new SpringPlates(), "f0,1;");
        due("no plate", x.fault(1), 2);
        x.plate();
        due("a plate", x.fault(1), NONE);
        x.undo();
        due("no plate again", x.fault(1), 2);
    }

    private static void aFullText() {
        Due.sentence("There is a text of at most 60 characters");
        String nineteen = "x0;".repeat(19);
        dueNoFaultOf(Due.plates(1), nineteen + "x0;", 20);
        dueNoFaultOf(Due.plates(1), nineteen + "p;", 20);
        dueFaultOf(Due.plates(1), nineteen + "p;q", 59, 1, 0);
        dueFaultOf(Due.plates(1), nineteen + "p;p", 59, 1, 1);
        dueFaultOf(Due.plates(1), nineteen + "w60", 57, 1, 3);
        dueFaultOf(Due.plates(1), nineteen + "x1;", 57, 2, 0);
        dueFaultOf(Due.plates(1), nineteen + "w9;", 57, 2, 0);
        dueFaultOf(Due.plates(4), nineteen + "p;w", 57, 3, NONE);
        dueNoFault("p;p;p;p;" + "x3;".repeat(17), 21);
        dueNoFault("p;p;p;p;" + "x3;".repeat(16) + "w60;", 21);
        dueFault("p;p;p;p;" + "x3;".repeat(16) + "w09;", 56, 2, 0);
        // A character that is not taken is not in it.
        dueFaultOf(Due.plates(1), nineteen + "w60" + ";", 57, 1, 3);
        dueFault("p".repeat(60), 0, 1, 1);
        dueFault(" ".repeat(60), 0, 1, 0);
    }

    // ---- promise 22

    private static void playEmpty() {
        Due.sentence("22: They are one change, also if there are none. Returns how many there are in it");
        SpringPlates x = new SpringPlates();
        for (int states = 1; states <= 6; states++) {
            due("plays none", x.play(), 0);
            due("states", x.count(4), Math.min(states, 4));
        }
        due("undo", x.undo(), 3);
        due("as it was", x.count(1), 60);
    }

    private static void playIsOneChange() {
        Due.sentence("22: They are one change");
        SpringPlates x = new SpringPlates();
        dueNoFaultOf(x, "p;p;p;p;w99;f3,-99;l3,99;r0,0;k4,9,50;x3;", 10);
        due("states", x.count(4), 1);
        due("plates", x.count(0), 4);
        due("width", x.count(1), 99);
        due("stops", x.count(2), 1);
        due("loads", x.count(3), 901);
        due("spring", Due.springOf(x, 3, 1), 950);
        due("right stop", x.plateOf(0, 2), 0);
        due("undo", x.undo(), 0);
        due("no plate", x.count(0), 0);
        due("width as it was", x.count(1), 60);
    }

    private static void playKeepsTheText() {
        Due.sentence("22: Does all settings of the text, which stays.");
        SpringPlates x = Due.withText(new SpringPlates(), "p;");
        for (int plates = 1; plates <= 4; plates++) {
            due("plays", x.play(), 1);
            due("plates", x.count(0), plates);
            due("length", x.count(5), 2);
        }
        due("no more", x.play(), IMPOSSIBLE);
        due("length", x.count(5), 2);
        due("reason", x.fault(1), 3);
    }

    private static void playOfSettings() {
        Due.sentence("\"x\" a plate (its stops are removed, if it has any)");
        for (int plate = 0; plate < 4; plate++) {
            for (int stops = 0; stops < 4; stops++) {
                SpringPlates x = Due.plates(4);
                for (int other = 0; other < 4; other++) {
                    if (other != plate || (stops & 1) != 0) {
                        x.stop(other, 0, 5);
                    }
                    if (other != plate || (stops & 2) != 0) {
                        x.stop(other, 1, 50);
                    }
                }
                dueNoFaultOf(x, "x" + plate + ";", 1);
                due("stops", x.count(2), 6);
                due("left", x.plateOf(plate, 1), NONE);
                due("right", x.plateOf(plate, 2), NONE);
            }
        }
    }

    private static void playOfStops() {
        Due.sentence("\"l\" or \"r\" a plate, \",\", a place (its left or right stop)");
        for (int plate = 0; plate < 4; plate++) {
            SpringPlates x = Due.plates(4);
            dueNoFaultOf(x, "l" + plate + ",0;", 1);
            due("left", x.plateOf(plate, 1), 0);
            due("no right", x.plateOf(plate, 2), NONE);
            dueNoFaultOf(x, "r" + plate + ",60;l" + plate + ",7;", 2);
            due("left", x.plateOf(plate, 1), 7);
            due("right", x.plateOf(plate, 2), 60);
            due("no others", x.count(2), 2);
        }
    }

    private static void playOfPlates() {
        Due.sentence("\"p\" (a plate is added)");
        SpringPlates x = new SpringPlates();
        dueNoFaultOf(x, "k0,9,50;p;", 2);
        due("spring to the left", Due.springOf(x, 0, 0), 950);
        due("spring to the right", Due.springOf(x, 0, 1), 110);
        x.load(0, 9);
        x.stop(0, 0, 9);
        x.drop(0);
        dueNoFaultOf(x, "p;", 1);
        due("no load", x.plateOf(0, 0), 1000);
        due("no stop", x.plateOf(0, 1), NONE);
    }

    private static void playWithAFault() {
        Due.sentence("22: NOT_POSSIBLE if it has a fault.");
        String[] texts = {"p", "q", "w9;", "p;p;p;p;p;", "w50;p;f0,5;w", "p;l0,5;w99;x1;"};
        for (String text : texts) {
            SpringPlates x = Due.withText(new SpringPlates(), text);
            due("play of " + text, x.play(), IMPOSSIBLE);
            due("no plate", x.count(0), 0);
            due("width", x.count(1), 60);
            due("no change", x.count(4), 0);
            due("text", x.count(5), text.length());
        }
    }

    public static void main(String[] args) {
        typeRange();
        typeLimit();
        typeLimitAndRange();
        typedInOrder();
        clearTexts();
        faultRange();
        faultOfNone();
        faultOfReason3();
        formsThatAreTaken();
        endsTooEarly();
        breaksOff();
        breaksOffAtOtherSigns();
        letters();
        numbersOfDigits();
        minusAheadOfALoad();
        widthOutOfRange();
        noSuchPlate();
        springOutOfRange();
        placeOutOfRange();
        theFirstNumber();
        otherwise();
        reasonsInOrder();
        theFirstFault();
        whenThoseAheadAreDone();
        aFullText();
        playEmpty();
        playIsOneChange();
        playKeepsTheText();
        playOfSettings();
        playOfStops();
        playOfPlates();
        playWithAFault();
        Due.end("texts");
    }
}
