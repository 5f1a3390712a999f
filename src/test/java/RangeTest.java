/**
 * What is too small or too large. One method for each argument that the document names, with the document's words; the
 * numbers just below and just above, and the smallest and the largest int, are refused, and change nothing.
 */
public final class RangeTest {
    private static final int UNKNOWN = Edge.UNKNOWN, OUTSIDE = Edge.OUTSIDE, NONE = Edge.NONE;
    private static final Edge edge = new Edge();

    public static void main(String[] args) {
        codesOfLetter();
        codesOfLaid();
        digitsOfPress();
        frequenciesOfUse();
        widthsOfBuild();
        slacksOfTend();
        slackZero();
        slackHundred();
        whatOfName();
        whatOfAbout();
        whatOfSpelling();
        whatOfMenu();
        whatOfCount();
        namesOfDrop();
        namesOfUse();
        namesOfName();
        namesAndPlacesOfSign();
        namesAndPlacesOfDigit();
        placesOfTyped();
        placesOfChoice();
        placesOfPiece();
        namesAndStepsOfPath();
        partsOfLeads();
        partsWithZero();
        partsOfTenDigits();
        exampleOfLeads();
        edge.end();
    }

    // "code: its code, 32 to 126"; "OUTSIDE if code is out of range"
    private static void codesOfLetter() {
        edge.stillOutside(Scenes.FRESH, "letter", 32, 126, OUTSIDE);
        edge.stillOutside(Scenes.FIVE, "letter", 32, 126, OUTSIDE);
        edge.taken(Scenes.FRESH, "letter", 32, 126);
        edge.due(Scenes.FRESH, "letter 32", 1);
        edge.due(Scenes.FRESH, "letter 126", 1);
        edge.still(Scenes.FRESH, "letter 0", OUTSIDE);
        // A code that is a character only after a narrowing cast.
        edge.still(Scenes.FRESH, "letter 65633", OUTSIDE);
        edge.still(Scenes.FRESH, "letter 353", OUTSIDE);
    }

    // "code: the code of the letter, 97 (a) to 122 (z)"; "OUTSIDE if code is out of range"
    private static void codesOfLaid() {
        for (Scene scene : new Scene[] {Scenes.FRESH, Scenes.LONG}) {
            edge.stillOutside(scene, "laid", 97, 122, OUTSIDE);
            edge.still(scene, "laid 0", OUTSIDE);
            edge.still(scene, "laid 65", OUTSIDE);
            edge.still(scene, "laid 90", OUTSIDE);
            edge.due(scene, "laid 97", 2);
            edge.due(scene, "laid 122", 9);
            edge.taken(scene, "laid", 97, 122);
        }
    }

    // "d: the digit, 2 to 9"; "OUTSIDE if d is out of range"
    private static void digitsOfPress() {
        edge.stillOutside(Scenes.FRESH, "press", 2, 9, OUTSIDE);
        edge.stillOutside(Scenes.FIVE, "press", 2, 9, OUTSIDE);
        edge.still(Scenes.FRESH, "press 0", OUTSIDE);
        // The character codes of 2 and 9 are no digits.
        edge.still(Scenes.FRESH, "press 50", OUTSIDE);
        edge.still(Scenes.FRESH, "press 57", OUTSIDE);
        edge.taken(Scenes.FRESH, "press", 2, 9);
        edge.due(Scenes.FIVE, "press 2", 4);
        edge.due(Scenes.FIVE, "press 9", 4);
    }

    // "v: the new frequency, 1 to 99"; "OUTSIDE if v is out of range"
    private static void frequenciesOfUse() {
        edge.stillOutside(Scenes.FIVE, "use", 0, 1, 99, OUTSIDE);
        edge.stillOutside(Scenes.MENU, "use", 4, 1, 99, OUTSIDE);
        edge.stillOutside(Scenes.FULL_NAMES, "use", 13, 1, 99, OUTSIDE);
        edge.taken(Scenes.FIVE, "use", 4, 1, 99);
        edge.due(Scenes.FIVE.and("lowest", "use 0 1"), "name 0 1", 1);
        edge.due(Scenes.FIVE.and("highest", "use 0 99"), "name 0 1", 99);
        edge.due(Scenes.FIVE.and("highest", "use 0 99"), "use 0 1", 99);
        edge.due(Scenes.FIVE.and("lowest", "use 0 1"), "use 0 99", 1);
    }

    // "b: the width, 2 to 4"; "OUTSIDE if b is out of range"
    private static void widthsOfBuild() {
        edge.stillOutside(Scenes.FIVE, "build", 2, 4, OUTSIDE);
        edge.stillOutside(Scenes.MENU, "build", 2, 4, OUTSIDE);
        edge.stillOutside(Scenes.ONE, "build", 2, 4, OUTSIDE);
        edge.still(Scenes.FIVE, "build 0", OUTSIDE);
        for (int width = 2; width <= 4; width++) {
            edge.due(Scenes.FIVE.and("built", "build " + width), "menu 0", width);
            edge.due(Scenes.FULL_NAMES.and("built", "build " + width), "menu 5", width);
        }
    }

    // "slack: 0 to 100"; "OUTSIDE if slack is out of range"
    private static void slacksOfTend() {
        edge.stillOutside(Scenes.MENU, "tend", 0, 100, OUTSIDE);
        edge.stillOutside(Scenes.ONE, "tend", 0, 100, OUTSIDE);
        edge.taken(Scenes.MENU, "tend", 0, 100);
        // Products that wrap around in an int would turn the comparison.
        edge.still(Scenes.MENU, "tend 42949673", OUTSIDE);
        edge.still(Scenes.MENU, "tend -42949673", OUTSIDE);
    }

    // "if 100 * (its cost - the cost of the optimal one) is greater than slack * (the cost of the optimal one)", slack 0
    private static void slackZero() {
        // 11, 12 and 2, which became as dear as 1, 21 and 22: 5 and 5.
        Scene equal = Scene.of("as dear as the best", "write a:1;b:1;c:2", "names", "build 2", "use 2 1");
        edge.due(equal, "menu 1", 5);
        edge.due(equal, "menu 2", 5);
        edge.still(equal, "tend 0", NONE);
        // 4 + 2 + 1 and 2 + 2 + 2.
        Scene dearer = equal.and("dearer by one", "use 0 2");
        edge.due(dearer, "menu 1", 7);
        edge.due(dearer, "menu 2", 6);
        edge.due(dearer, "tend 0", 3);
        edge.due(dearer, "tend 16", 3);
        edge.still(dearer, "tend 17", NONE);
        edge.still(dearer, "tend 100", NONE);
    }

    // The same with slack 100: the present menu may cost twice as much, and no more.
    private static void slackHundred() {
        // a, b, c and d have the paths 1, 21, 221 and 222: 6 + 3 * d, and at best d + 8.
        Scene chain = Scene.of("a chain", "write a:8;b:4;c:1;d:1", "names", "build 2", "use 0 1", "use 1 1");
        Scene twice = chain.and("twice as dear as the best", "use 3 10");
        edge.due(twice, "menu 1", 36);
        edge.due(twice, "menu 2", 18);
        edge.still(twice, "tend 100", NONE);
        edge.due(twice, "tend 99", 4);
        Scene more = chain.and("more than twice as dear", "use 3 11");
        edge.due(more, "menu 1", 39);
        edge.due(more, "menu 2", 19);
        edge.due(more, "tend 100", 4);
    }

    // name's "what: 0: .. 7: .."; "OUTSIDE if what is out of range"
    private static void whatOfName() {
        for (Scene scene : new Scene[] {Scenes.FIVE, Scenes.MENU, Scenes.ONE, Scenes.FULL_NAMES}) {
            edge.stillOutside(scene, "name", 0, 0, 7, OUTSIDE);
            edge.taken(scene, "name", 0, 0, 7);
        }
    }

    // about's "what: 0: .. 6: .."; "OUTSIDE if what is out of range"
    private static void whatOfAbout() {
        for (Scene scene : new Scene[] {Scenes.FRESH, Scenes.FIVE, Scenes.GONE, Scenes.FULL_NAMES}) {
            edge.stillOutside(scene, "about", 0, 6, OUTSIDE);
            edge.taken(scene, "about", 0, 6);
        }
    }

    // spelling's "what: 0: .. 3: .."; "OUTSIDE if what is out of range"
    private static void whatOfSpelling() {
        for (Scene scene : new Scene[] {Scenes.FRESH, Scenes.FIVE, Scenes.FULL_INPUT}) {
            edge.stillOutside(scene, "spelling", 0, 3, OUTSIDE);
            edge.taken(scene, "spelling", 0, 3);
        }
    }

    // menu's "what: 0: .. 6: .."; "OUTSIDE if what is out of range"
    private static void whatOfMenu() {
        for (Scene scene : new Scene[] {Scenes.MENU, Scenes.ONE, Scenes.FULL_NAMES}) {
            edge.stillOutside(scene, "menu", 0, 6, OUTSIDE);
            edge.taken(scene, "menu", 0, 6);
        }
    }

    // count's "what: 0: .. 5: .."; "OUTSIDE if what is out of range"
    private static void whatOfCount() {
        for (Scene scene : new Scene[] {Scenes.FRESH, Scenes.FIVE, Scenes.GONE}) {
            edge.stillOutside(scene, "count", 0, 5, OUTSIDE);
            edge.taken(scene, "count", 0, 5);
        }
    }

    // drop: "UNKNOWN if there is no such name"
    private static void namesOfDrop() {
        edge.stillOutside(Scenes.FIVE, "drop", 0, 4, UNKNOWN);
        edge.stillOutside(Scenes.ONE, "drop", 0, 0, UNKNOWN);
        edge.stillOutside(Scenes.FULL_NAMES, "drop", 0, 13, UNKNOWN);
        edge.still(Scenes.FRESH, "drop 0", UNKNOWN);
        edge.still(Scenes.GONE, "drop 0", UNKNOWN);
        edge.due(Scenes.FIVE, "drop 0", 4);
        edge.due(Scenes.FIVE, "drop 4", 4);
        edge.due(Scenes.ONE, "drop 0", 0);
        edge.due(Scenes.FULL_NAMES, "drop 13", 13);
    }

    // use: "UNKNOWN if there is no such name"
    private static void namesOfUse() {
        for (int wrong : Edge.outside(0, 4)) {
            edge.still(Scenes.FIVE, new Call("use", wrong, 7), UNKNOWN);
            edge.still(Scenes.MENU, new Call("use", wrong, 7), UNKNOWN);
        }
        edge.still(Scenes.FRESH, "use 0 7", UNKNOWN);
        edge.still(Scenes.FULL_NAMES, "use 14 7", UNKNOWN);
        edge.due(Scenes.FULL_NAMES, "use 13 7", 99);
        edge.due(Scenes.FULL_NAMES, "use 0 7", 50);
    }

    // name: "UNKNOWN if there is no such name"
    private static void namesOfName() {
        for (int what = 0; what <= 7; what++) {
            for (int wrong : Edge.outside(0, 4)) {
                edge.still(Scenes.FIVE, new Call("name", wrong, what), UNKNOWN);
                edge.still(Scenes.MENU, new Call("name", wrong, what), UNKNOWN);
            }
            edge.still(Scenes.FRESH, new Call("name", 0, what), UNKNOWN);
            edge.still(Scenes.FULL_NAMES, new Call("name", 14, what), UNKNOWN);
        }
        edge.taken(Scenes.FULL_NAMES, "name", 13, 0, 7);
    }

    // sign: "UNKNOWN if there is no such name or position"
    private static void namesAndPlacesOfSign() {
        namesAndPlaces("sign", 'a', 'n');
        edge.due(Scenes.LONG, "sign 1 7", 'd');
    }

    // digit: "UNKNOWN if there is no such name or position"
    private static void namesAndPlacesOfDigit() {
        namesAndPlaces("digit", 2, 6);
        edge.due(Scenes.LONG, "digit 2 7", 9);
    }

    private static void namesAndPlaces(String method, int ofA, int lastOfCan) {
        for (int wrong : Edge.outside(0, 4)) {
            edge.still(Scenes.FIVE, new Call(method, wrong, 0), UNKNOWN);
            edge.still(Scenes.FIVE, new Call(method, wrong, wrong), UNKNOWN);
        }
        // a has one letter, can has three, and each of the long names eight.
        edge.stillOutside(Scenes.FIVE, method, 0, 0, 0, UNKNOWN);
        edge.stillOutside(Scenes.FIVE, method, 4, 0, 2, UNKNOWN);
        edge.stillOutside(Scenes.LONG, method, 0, 0, 7, UNKNOWN);
        edge.still(Scenes.FRESH, new Call(method, 0, 0), UNKNOWN);
        edge.due(Scenes.FIVE, new Call(method, 0, 0), ofA);
        edge.due(Scenes.FIVE, new Call(method, 4, 2), lastOfCan);
        edge.taken(Scenes.LONG, method, 2, 0, 7);
    }

    // typed: "UNKNOWN if there is no such position"
    private static void placesOfTyped() {
        edge.stillOutside(Scenes.FIVE, "typed", 0, 2, UNKNOWN);
        edge.stillOutside(Scenes.FULL_INPUT, "typed", 0, 9, UNKNOWN);
        edge.still(Scenes.FRESH, "typed 0", UNKNOWN);
        edge.due(Scenes.FIVE, "typed 0", 2);
        edge.due(Scenes.FIVE, "typed 2", 6);
        edge.due(Scenes.FULL_INPUT, "typed 9", 3);
        edge.due(Scenes.FIVE.and("taken back", "back"), "typed 2", UNKNOWN);
    }

    // choice: "UNKNOWN if there is no such position"
    private static void placesOfChoice() {
        edge.stillOutside(Scenes.FIVE, "choice", 0, 1, UNKNOWN);
        edge.due(Scenes.FIVE, "choice 0", 3);
        edge.due(Scenes.FIVE, "choice 1", 4);
        Scene all = Scenes.FULL_NAMES.and("nothing typed", "wipe");
        edge.stillOutside(all, "choice", 0, 13, UNKNOWN);
        edge.due(all, "choice 0", 13);
        edge.due(all, "choice 1", 0);
        edge.due(all, "choice 13", 12);
        edge.still(Scenes.FULL_NAMES, "choice 0", UNKNOWN);
        // Only the first digit is another one.
        edge.still(Scene.of("no such choice", "write cam:1", "names", "type 326"), "choice 0", UNKNOWN);
        edge.still(Scene.of("no such choice", "write a:1", "names", "type 3"), "choice 0", UNKNOWN);
    }

    // piece: "UNKNOWN if there is no such piece"
    private static void placesOfPiece() {
        edge.stillOutside(Scenes.FIVE, "piece", 0, 0, UNKNOWN);
        edge.due(Scenes.FIVE, "piece 0", 3);
        edge.stillOutside(Scenes.FULL_INPUT, "piece", 0, 4, UNKNOWN);
        edge.due(Scenes.FULL_INPUT, "piece 4", 1);
        Scene digits = Scene.of("ten digits", "type 2345678929");
        edge.stillOutside(digits, "piece", 0, 9, UNKNOWN);
        edge.due(digits, "piece 0", -4);
        edge.due(digits, "piece 9", -11);
    }

    // path: "UNKNOWN if there is no such name or step"
    private static void namesAndStepsOfPath() {
        for (int wrong : Edge.outside(0, 4)) {
            edge.still(Scenes.MENU, new Call("path", wrong, 0), UNKNOWN);
            edge.still(Scenes.MENU, new Call("path", wrong, wrong), UNKNOWN);
        }
        edge.stillOutside(Scenes.MENU, "path", 0, 0, 1, UNKNOWN);
        edge.stillOutside(Scenes.MENU, "path", 4, 0, 2, UNKNOWN);
        edge.stillOutside(Scenes.FULL_NAMES, "path", 13, 0, 0, UNKNOWN);
        edge.still(Scenes.FULL_NAMES, "path 14 0", UNKNOWN);
        edge.due(Scenes.MENU, "path 0 1", 1);
        edge.due(Scenes.MENU, "path 4 2", 2);
        edge.due(Scenes.FULL_NAMES, "path 13 0", 4);
    }

    // leads: "UNKNOWN if there is no such part (also if parts is negative ..)"; "0 for the whole menu"
    private static void partsOfLeads() {
        edge.still(Scenes.MENU, "leads 0", NONE);
        for (int wrong : new int[] {-1, -2, -11, -12, -221, Integer.MIN_VALUE, Integer.MIN_VALUE + 1, Integer.MAX_VALUE,
            Integer.MAX_VALUE - 1, 3, 4, 5, 9, 13, 19, 23, 31, 111, 112, 121, 211, 212, 223, 224, 2211, 2221, 2222, 1211}) {
            edge.still(Scenes.MENU, new Call("leads", wrong, 0), UNKNOWN);
        }
        edge.still(Scenes.MENU, "leads 1", NONE);
        edge.still(Scenes.MENU, "leads 2", NONE);
        edge.still(Scenes.MENU, "leads 22", NONE);
        edge.still(Scenes.MENU, "leads 11", 0);
        edge.still(Scenes.MENU, "leads 12", 1);
        edge.still(Scenes.MENU, "leads 21", 2);
        edge.still(Scenes.MENU, "leads 221", 3);
        edge.still(Scenes.MENU, "leads 222", 4);
        // Four parts, and no fifth.
        edge.due(Scenes.FULL_NAMES, "leads 4", 13);
        edge.still(Scenes.FULL_NAMES, "leads 5", UNKNOWN);
    }

    // leads: "(also if parts .. contains a digit 0 and is not 0)"
    private static void partsWithZero() {
        for (int wrong : new int[] {10, 20, 110, 220, 2210, 101, 102, 201, 202, 2021, 2201, 1010, 100, 1000000000,
            2000000000, 2147483640}) {
            edge.still(Scenes.MENU, new Call("leads", wrong, 0), UNKNOWN);
        }
        edge.still(Scenes.ONE, "leads 10", UNKNOWN);
    }

    // The longest numbers of parts that an int can have.
    private static void partsOfTenDigits() {
        Scene falling = Scene.of("a long way down", "write b:1;c:1;d:2;e:3;f:5;g:8;h:13;i:21;j:34", "names",
            "write a:99;k:55", "names", "build 2");
        edge.due(falling, "name 1 6", 10);
        edge.due(falling, "leads 1", 0);
        edge.due(falling, "leads 2", NONE);
        edge.due(falling, "leads 211111111", NONE);
        edge.due(falling, "leads 2111111111", 1);
        edge.due(falling, "leads 2111111112", 2);
        edge.due(falling, "leads 211111112", 3);
        edge.due(falling, "leads 22", 10);
        edge.still(falling, "leads 2111111113", UNKNOWN);
        edge.still(falling, "leads 2111111110", UNKNOWN);
        edge.still(falling, "leads 1111111111", UNKNOWN);
    }

    // leads: "(213: the second part, its first part, the third part of this one)"
    private static void exampleOfLeads() {
        Scene scene = Scene.of("the document's example", "write a:99;b:1;c:1;d:1;e:20;f:20;g:99", "names", "build 3");
        edge.due(scene, "leads 213", 3);
        edge.due(scene, "leads 211", 1);
        edge.due(scene, "leads 21", NONE);
        edge.due(scene, "leads 22", 4);
        edge.due(scene, "leads 214", UNKNOWN);
        edge.due(scene, "leads 312", UNKNOWN);
    }
}
