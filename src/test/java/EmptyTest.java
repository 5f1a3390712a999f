/** What is empty: a new object, an empty text, an empty input, no names, no menu, and a menu for one name. */
public final class EmptyTest {
    private static final int NONE = Edge.NONE, UNKNOWN = Edge.UNKNOWN, STATE = Edge.STATE;
    private static final Edge edge = new Edge();

    public static void main(String[] args) {
        newObjectHasNoNames();
        newObjectHasTheKeypad();
        newObjectHasAnEmptyInput();
        newObjectHasAnEmptyText();
        newObjectHasNoMenu();
        newObjectHasCountedNothing();
        newObjectsShareNothing();
        emptyText();
        emptyTextAfterReading();
        emptyInput();
        emptyInputHasOneReading();
        emptyInputChoosesAll();
        aboutNoNames();
        noNameHasADistinguishingLength();
        noNamesAndAnInput();
        noNamesToBuildFrom();
        noMenu();
        noMenuForTheLengthOfAPath();
        menuIsRemoved();
        oneNameIsAnEnd();
        oneNameStandsAlone();
        edge.end();
    }

    private static void all(Scene scene, String method, long... want) {
        for (int what = 0; what < want.length; what++) {
            edge.still(scene, new Call(method, what, 0), want[what]);
        }
    }

    // "Creates an object without names .."
    private static void newObjectHasNoNames() {
        all(Scenes.FRESH, "about", 0, 0, 0, 0, NONE, 0, 0);
        for (String call : new String[] {"drop 0", "use 0 1", "name 0 0", "name 0 6", "sign 0 0", "digit 0 0", "choice 0"}) {
            edge.still(Scenes.FRESH, call, UNKNOWN);
        }
    }

    // ".. with the keypad named above": "abc, def, ghi, jkl, mno, pqrs, tuv, wxyz"
    private static void newObjectHasTheKeypad() {
        String digits = "22233344455566677778889999";
        for (int at = 0; at < 26; at++) {
            edge.still(Scenes.FRESH, new Call("laid", 'a' + at, 0), digits.charAt(at) - '0');
        }
    }

    // ".. an empty input"
    private static void newObjectHasAnEmptyInput() {
        edge.still(Scenes.FRESH, "wipe", 0);
        edge.still(Scenes.FRESH, "typed 0", UNKNOWN);
        edge.still(Scenes.FRESH, "back", STATE);
        edge.due(Scenes.FRESH, "press 9", 1);
    }

    // ".. an empty text buffer"
    private static void newObjectHasAnEmptyText() {
        edge.still(Scenes.FRESH, "blank", 0);
        edge.still(Scenes.FRESH, "fault", 0);
        edge.due(Scenes.FRESH, "letter 97", 1);
    }

    // ".. and no menu"
    private static void newObjectHasNoMenu() {
        for (String call : new String[] {"tend 0", "path 0 0", "leads 0", "menu 0", "menu 6"}) {
            edge.still(Scenes.FRESH, call, STATE);
        }
    }

    private static void newObjectHasCountedNothing() {
        all(Scenes.FRESH, "count", 0, 0, 0, 0, 0, 0);
        // "how often a menu was made .. since the object was created": the first one is the first.
        edge.due(Scene.of("first menu", "write a:1", "names", "build 2"), "menu 6", 1);
    }

    private static void newObjectsShareNothing() {
        DialMenus used = Scenes.LONG.make();
        DialMenus fresh = new DialMenus();
        used.press(2);
        used.use(0, 1);
        edge.due("a new object beside a used one", fresh.digest(), Scenes.FRESH.make().digest());
        edge.due("a new object beside one with another keypad", fresh.laid('d'), 3);
    }

    // An empty text: fault "the length of the text if there is no such character"; names and dial "STATE if the text is
    // not .."; blank "Returns the length that the text had"
    private static void emptyText() {
        for (Scene scene : new Scene[] {Scenes.FRESH, Scenes.FULL_INPUT, Scenes.ONE}) {
            edge.still(scene, "fault", 0);
            edge.still(scene, "names", STATE);
            edge.still(scene, "dial", STATE);
            edge.still(scene, "blank", 0);
        }
    }

    // names and dial: "the text buffer, which is empty then"; blank: "Empties the text buffer"
    private static void emptyTextAfterReading() {
        Scene read = Scene.of("a list was read", "write a:1", "names");
        edge.still(read, "blank", 0);
        edge.still(read, "names", STATE);
        Scene laid = Scene.of("a keypad was read", "write " + Scenes.WIDE, "dial");
        edge.still(laid, "blank", 0);
        edge.still(laid, "dial", STATE);
        Scene blanked = Scene.of("a text was removed", "write a:1", "blank");
        edge.still(blanked, "blank", 0);
        edge.still(blanked, "names", STATE);
        edge.due(blanked, "letter 97", 1);
        edge.due(Scenes.FULL_TEXT, "blank", 50);
    }

    // An empty input: back "STATE if there is none"; wipe "Returns how many digits it had"; typed, piece: UNKNOWN
    private static void emptyInput() {
        Scene wiped = Scenes.FIVE.and("five names and nothing typed", "wipe");
        Scene back = Scenes.FIVE.and("five names and all taken back", "back", "back", "back");
        for (Scene scene : new Scene[] {Scenes.FRESH, wiped, back}) {
            edge.still(scene, "back", STATE);
            edge.still(scene, "wipe", 0);
            edge.still(scene, "typed 0", UNKNOWN);
            edge.still(scene, "piece 0", UNKNOWN);
            edge.still(scene, "count 2", 0);
            edge.due(scene, "press 5", 1);
        }
        edge.due(Scenes.FIVE.and("one digit left", "back", "back"), "back", 0);
    }

    // "An empty input has one reading, without pieces."
    private static void emptyInputHasOneReading() {
        for (Scene scene : new Scene[] {Scenes.FRESH, Scenes.FIVE.and("names, nothing typed", "wipe"),
            Scenes.FULL_NAMES.and("full, nothing typed", "wipe")}) {
            all(scene, "spelling", 1, 0, 0, 1);
            edge.still(scene, "piece 0", UNKNOWN);
        }
    }

    // "The choice for a sequence of digits is the list of all names whose codes have this prefix": an empty one has them all
    private static void emptyInputChoosesAll() {
        all(Scenes.FIVE.and("five names, nothing typed", "wipe"), "choice", 2, 0, 1, 3, 4, UNKNOWN);
        edge.still(Scenes.FRESH, "choice 0", UNKNOWN);
        edge.still(Scenes.GONE, "choice 0", UNKNOWN);
        edge.still(Scenes.GONE.and("nothing typed either", "wipe"), "choice 0", UNKNOWN);
    }

    // about without names; "4: the greatest distinguishing length, NONE if no name has one"
    private static void aboutNoNames() {
        all(Scenes.FRESH, "about", 0, 0, 0, 0, NONE, 0, 0);
        all(Scenes.GONE, "about", 0, 0, 0, 0, NONE, 0, 0);
    }

    // "there need not be one"; name 3 "NONE if there is none"; about 4 "NONE if no name has one"
    private static void noNameHasADistinguishingLength() {
        Scene twins = Scene.of("only twins", "write a:1;b:1", "names");
        edge.still(twins, "name 0 3", NONE);
        edge.still(twins, "name 1 3", NONE);
        edge.still(twins, "about 4", NONE);
        // ba is no beginning of abc, but its code is one of abc's.
        Scene beginning = Scene.of("a beginning", "write ba:1;abc:1", "names");
        edge.still(beginning, "name 1 3", NONE);
        edge.still(beginning, "name 0 3", 3);
        edge.still(beginning, "about 4", 3);
    }

    private static void noNamesAndAnInput() {
        Scene typed = Scene.of("digits without names", "type 29");
        edge.still(typed, "choice 0", UNKNOWN);
        all(typed, "spelling", 1, 2, 2, 1);
        all(typed, "piece", -4, -11, UNKNOWN);
    }

    // build: "STATE if there are no names"
    private static void noNamesToBuildFrom() {
        for (int width = 2; width <= 4; width++) {
            edge.still(Scenes.FRESH, new Call("build", width, 0), STATE);
            edge.still(Scenes.GONE, new Call("build", width, 0), STATE);
        }
    }

    // tend, path, leads, menu: "STATE if there is no menu"
    private static void noMenu() {
        for (Scene scene : new Scene[] {Scenes.FRESH, Scenes.FIVE, Scenes.GONE}) {
            edge.still(scene, "tend 0", STATE);
            edge.still(scene, "tend 100", STATE);
            edge.still(scene, "path 0 0", STATE);
            edge.still(scene, "leads 0", STATE);
            edge.still(scene, "leads 1", STATE);
            all(scene, "menu", STATE, STATE, STATE, STATE, STATE, STATE, STATE);
        }
    }

    // name 6: "the length of its path in the present menu, NONE if there is no menu"
    private static void noMenuForTheLengthOfAPath() {
        for (int name = 0; name < 5; name++) {
            edge.still(Scenes.FIVE, new Call("name", name, 6), NONE);
        }
        // Four parts: a, anna, bob, and cam with can.
        edge.still(Scenes.FIVE.and("built", "build 4"), "name 0 6", 1);
        edge.still(Scenes.FIVE.and("built", "build 4"), "name 4 6", 2);
    }

    // names and drop: "The menu is removed."; "it is removed when names come or go"
    private static void menuIsRemoved() {
        Scene come = Scene.of("a name came", "write a:1;b:1", "names", "build 2", "write c:1", "names");
        Scene gone = Scene.of("a name went", "write a:1;b:1", "names", "build 2", "drop 1");
        for (Scene scene : new Scene[] {come, gone}) {
            edge.still(scene, "menu 0", STATE);
            edge.still(scene, "tend 0", STATE);
            edge.still(scene, "path 0 0", STATE);
            edge.still(scene, "leads 0", STATE);
            edge.still(scene, "name 0 6", NONE);
            edge.due(scene.and("built again", "build 3"), "menu 6", 2);
        }
    }

    // "A menu for one name is an end."
    private static void oneNameIsAnEnd() {
        for (int width = 2; width <= 4; width++) {
            Scene scene = Scene.of("an end", "write solo:99", "names", "build " + width);
            edge.due(Scenes.ONE, "build " + width, 0);
            all(scene, "menu", width, 0, 0, 0, 0, 0, 1, Edge.OUTSIDE);
            edge.still(scene, "leads 0", 0);
            edge.still(scene, "leads 1", UNKNOWN);
            edge.still(scene, "path 0 0", UNKNOWN);
            edge.still(scene, "path 1 0", UNKNOWN);
            edge.still(scene, "name 0 6", 0);
            edge.still(scene, "name 0 7", 0);
            // 100 * 0 is not greater than slack * 0.
            edge.still(scene, "tend 0", NONE);
            edge.still(scene, "tend 100", NONE);
            edge.still(scene.and("lighter", "use 0 1"), "tend 0", NONE);
        }
    }

    // "The distinguishing length of a name is the smallest K from 0 on": without others it is 0
    private static void oneNameStandsAlone() {
        long[] want = {4, 99, 0, 0, 1, 0, 0, 0};
        for (int what = 0; what < want.length; what++) {
            edge.still(Scenes.ONE, new Call("name", 0, what), want[what]);
        }
        all(Scenes.ONE, "about", 1, 99, 0, 1, 0, 99, 396);
    }
}
