/** What is full: a text of 50 characters, an input of 10 digits, 14 names, names of 8 letters, frequencies of 99. */
public final class FullTest {
    private static final int UNKNOWN = Edge.UNKNOWN, STATE = Edge.STATE, FULL = Edge.FULL;
    private static final Edge edge = new Edge();

    public static void main(String[] args) {
        textTakesFifty();
        textOfFiftyIsFull();
        textOfFiftyCanBeRead();
        textOfFiftyThatIsNoList();
        textHasRoomAgain();
        inputTakesTen();
        inputOfTenIsFull();
        inputOfTenIsRead();
        inputHasRoomAgain();
        fourteenNamesAreTaken();
        moreThanFourteenAreRefused();
        refusedListAddsNoneOfItsNames();
        roomForNamesAgain();
        fourteenNamesAreNumbered();
        fourteenOneByOne();
        namesOfOneLetter();
        namesOfEightLetters();
        fourteenNamesOfEightLetters();
        frequencyOfNinetyNine();
        fourteenFrequenciesOfNinetyNine();
        heaviestAndLightest();
        edge.end();
    }

    // "There is a text buffer of at most 50 characters."; letter "Returns the length of the text"
    private static void textTakesFifty() {
        DialMenus x = new DialMenus();
        for (int length = 1; length <= 50; length++) {
            edge.due("letter " + length, x.letter(31 + length), length);
            edge.due("count " + length, x.count(1), length);
        }
    }

    // letter: "FULL if the text has 50 characters"
    private static void textOfFiftyIsFull() {
        for (int code = 32; code <= 126; code++) {
            edge.still(Scenes.FULL_TEXT, new Call("letter", code, 0), FULL);
        }
        edge.due(Scenes.FULL_TEXT, "count 1", 50);
        Scene almost = Scene.of("49 characters", "write " + Scenes.FIFTY.substring(1));
        edge.due(almost, "letter 58", 50);
        edge.still(almost.and("and one more", "letter 58"), "letter 58", FULL);
    }

    private static void textOfFiftyCanBeRead() {
        edge.still(Scenes.FULL_TEXT, "fault", 50);
        edge.due(Scenes.FULL_TEXT, "names", 12);
        edge.due(Scenes.FULL_TEXT.and("read", "names"), "count 0", 12);
        edge.due(Scenes.FULL_TEXT.and("read", "names"), "sign 11 3", 'z');
        edge.due(Scenes.FULL_TEXT.and("read", "names"), "name 11 1", 1);
        // A list may end in a frequency at the very end.
        Scene last = Scene.of("99 at the end", "write " + Scenes.FIFTY.substring(1, 49) + "99");
        edge.still(last, "fault", 50);
        edge.due(last.and("read", "names"), "name 10 1", 99);
    }

    // fault: "the length of the text if there is no such character (also if the text only ends too early)"
    private static void textOfFiftyThatIsNoList() {
        for (String end : new String[] {";", ";m", ";mn", ";m:"}) {
            String text = Scenes.FIFTY.substring(end.length()) + end;
            Scene scene = Scene.of("a full text that ends too early", "write " + text);
            edge.still(scene, "count 1", 50);
            edge.still(scene, "fault", 50);
            edge.still(scene, "names", STATE);
            edge.still(scene, "dial", STATE);
        }
        Scene keypad = Scene.of("a keypad and more", "write " + Scenes.PLAIN + ",bcdefghijklmnopq");
        edge.still(keypad, "count 1", 50);
        edge.still(keypad, "dial", STATE);
        edge.still(keypad, "fault", 3);
    }

    private static void textHasRoomAgain() {
        for (String step : new String[] {"blank", "names"}) {
            Scene scene = Scenes.FULL_TEXT.and("emptied by " + step, step);
            edge.due(scene, "letter 97", 1);
            edge.due(scene.and("filled again", "write " + Scenes.FIFTY), "count 1", 50);
            edge.still(scene.and("filled again", "write " + Scenes.FIFTY), "letter 97", FULL);
        }
    }

    // "There is an input of at most 10 digits from 2 to 9."; press "Returns the length of the input"
    private static void inputTakesTen() {
        DialMenus x = new DialMenus();
        for (int length = 1; length <= 10; length++) {
            edge.due("press " + length, x.press(2 + length % 8), length);
            edge.due("count " + length, x.count(2), length);
        }
        for (int place = 0; place < 10; place++) {
            edge.due("typed " + place, x.typed(place), 2 + (place + 1) % 8);
        }
    }

    // press: "FULL if the input has 10 digits"
    private static void inputOfTenIsFull() {
        for (int digit = 2; digit <= 9; digit++) {
            edge.still(Scenes.FULL_INPUT, new Call("press", digit, 0), FULL);
            edge.still(Scenes.LONG, new Call("press", digit, 0), FULL);
        }
    }

    private static void inputOfTenIsRead() {
        // a, b or a digit before each 3, or ad.
        long[] spelling = {1024, 0, 5, 1};
        for (int what = 0; what <= 3; what++) {
            edge.still(Scenes.FULL_INPUT, new Call("spelling", what, 0), spelling[what]);
        }
        for (int place = 0; place < 5; place++) {
            edge.still(Scenes.FULL_INPUT, new Call("piece", place, 0), 1);
        }
        edge.still(Scenes.FULL_INPUT, "piece 5", UNKNOWN);
        edge.still(Scenes.FULL_INPUT, "choice 0", UNKNOWN);
    }

    private static void inputHasRoomAgain() {
        edge.due(Scenes.FULL_INPUT, "back", 9);
        edge.due(Scenes.FULL_INPUT.and("one taken back", "back"), "press 9", 10);
        edge.due(Scenes.FULL_INPUT.and("another digit", "back", "press 9"), "typed 9", 9);
        edge.due(Scenes.FULL_INPUT, "wipe", 10);
        edge.due(Scenes.FULL_INPUT.and("wiped", "wipe"), "press 9", 1);
    }

    private static Scene filled(int names, String more) {
        String[] letters = Scenes.TWELVE.split(";");
        String list = String.join(";", java.util.Arrays.copyOf(letters, Math.min(names, 12)));
        Scene scene = Scene.of(names + " names", "write " + list, "names");
        for (int name = 12; name < names; name++) {
            scene = scene.and(names + " names", "write " + (char) ('a' + name) + ":1", "names");
        }
        return scene.and(names + " names and '" + more + "'", "build 3", "write " + more);
    }

    // "There are at most 14 names"
    private static void fourteenNamesAreTaken() {
        edge.due(filled(12, "x:1;y:1"), "names", 2);
        edge.due(filled(12, "x:1;y:1").and("read", "names"), "count 0", 14);
        edge.due(filled(13, "x:1"), "names", 1);
        edge.due(filled(13, "x:1").and("read", "names"), "about 0", 14);
        edge.due(filled(2, "m:1;n:1;o:1;p:1;q:1;r:1;s:1;t:1;u:1;v:1;w:1;x:1"), "names", 12);
    }

    // names: "FULL if there would be more than 14 names"
    private static void moreThanFourteenAreRefused() {
        edge.still(filled(14, "x:1"), "names", FULL);
        edge.still(filled(14, "x:1;y:1"), "names", FULL);
        edge.still(filled(13, "x:1;y:1"), "names", FULL);
        edge.still(filled(12, "x:1;y:1;z:1"), "names", FULL);
        edge.still(filled(3, "m:1;n:1;o:1;p:1;q:1;r:1;s:1;t:1;u:1;v:1;w:1;x:1"), "names", FULL);
        edge.still(filled(12, "m:1;n:1;o:1;p:1;q:1;r:1;s:1;t:1;u:1;v:1;w:1;x:1"), "names", FULL);
    }

    private static void refusedListAddsNoneOfItsNames() {
        DialMenus x = filled(13, "aa:5;ab:6").make();
        edge.due("full", x.names(), FULL);
        edge.due("none came", x.count(0), 13);
        edge.due("the second name is still b", x.sign(1, 0), 'b');
        edge.due("the menu stays", x.menu(0), 3);
        edge.due("no list was read", x.count(3), 2);
        edge.due("the text is still there", x.blank(), 9);
    }

    private static void roomForNamesAgain() {
        DialMenus x = filled(14, "x:7").make();
        edge.due("full", x.names(), FULL);
        edge.due("one goes", x.drop(5), 13);
        edge.due("one comes from the text that was left", x.names(), 1);
        edge.due("its frequency", x.name(13, 1), 7);
        edge.due("the text is empty", x.blank(), 0);
        Check.write(x, "y:1");
        edge.due("full again", x.names(), FULL);
    }

    private static void fourteenNamesAreNumbered() {
        DialMenus x = filled(12, "zz:2;aa:3").make();
        x.names();
        String[] words = {"a", "aa", "b", "c", "d", "e", "f", "g", "h", "i", "j", "k", "l", "zz"};
        for (int name = 0; name < 14; name++) {
            edge.holds("word " + name, Check.word(x, name).equals(words[name]));
        }
        edge.due("no fifteenth name", x.name(14, 0), UNKNOWN);
        edge.due("sum", x.about(1), 17);
    }

    private static void fourteenOneByOne() {
        DialMenus x = new DialMenus();
        for (int name = 13; name >= 0; name--) {
            edge.due("one more", Check.addNames(x, (char) ('a' + name) + ":" + (name + 1)), 1);
        }
        for (int name = 0; name < 14; name++) {
            edge.due("letter of " + name, x.sign(name, 0), 'a' + name);
            edge.due("frequency of " + name, x.name(name, 1), name + 1);
        }
        edge.due("one too many", Check.addNames(x, "z:1"), FULL);
        dropAll(x, "abcdefghijklmn");
        edge.due("removed", x.count(5), 14);
    }

    // The middle one goes each time, and the others are numbered anew.
    private static void dropAll(DialMenus x, String letters) {
        StringBuilder left = new StringBuilder(letters);
        while (left.length() > 0) {
            int middle = left.length() / 2;
            left.deleteCharAt(middle);
            edge.due("dropped", x.drop(middle), left.length());
            for (int name = 0; name < left.length(); name++) {
                edge.due("letter of " + name + " of " + left, x.sign(name, 0), left.charAt(name));
            }
            edge.due("no more than " + left, x.sign(left.length(), 0), UNKNOWN);
        }
        edge.due("none left", x.drop(0), UNKNOWN);
    }

    // "A name has 1 to 8 letters a to z"
    private static void namesOfOneLetter() {
        DialMenus x = Check.with("a:1;z:2");
        edge.due("a", x.sign(0, 0), 'a');
        edge.due("z", x.sign(1, 0), 'z');
        edge.due("one letter", x.name(1, 0), 1);
        edge.due("no second letter", x.sign(1, 1), UNKNOWN);
        edge.due("no second digit", x.digit(1, 1), UNKNOWN);
    }

    private static void namesOfEightLetters() {
        // With this keypad aaaaaaaa and aaaaaaad are twins.
        long[] twin = {8, 99, 1, Edge.NONE, 1, 0, 1, 1};
        long[] last = {8, 99, 0, 1, 2, 0, 2, 1};
        for (int what = 0; what <= 7; what++) {
            edge.still(Scenes.LONG, new Call("name", 0, what), twin[what]);
            edge.still(Scenes.LONG, new Call("name", 2, what), last[what]);
        }
        edge.still(Scenes.LONG, "piece 0", 0);
        edge.still(Scenes.LONG, "piece 1", -11);
        edge.still(Scenes.LONG, "piece 2", -11);
        edge.still(Scenes.LONG, "spelling 0", 3);
        edge.still(Scenes.LONG, "spelling 3", 2);
        Scene plain = Scene.of("the last digit tells", "write aaaaaaaa:99;aaaaaaad:99", "names", "type 22222223");
        edge.still(plain, "name 0 3", 8);
        edge.still(plain, "name 1 3", 8);
        edge.still(plain, "about 4", 8);
        edge.still(plain, "choice 0", 1);
        edge.still(plain, "choice 1", UNKNOWN);
        edge.still(plain, "piece 0", 1);
        edge.still(plain.and("one digit more", "press 2"), "choice 0", UNKNOWN);
        edge.still(Scene.of("nine letters", "write aaaaaaaaa:1"), "names", STATE);
    }

    private static void fourteenNamesOfEightLetters() {
        DialMenus x = new DialMenus();
        for (int name = 0; name < 14; name += 2) {
            char letter = (char) ('a' + name);
            char next = (char) (letter + 1);
            edge.due("two more", Check.addNames(x, "bcdefgh" + next + ":99;bcdefgh" + letter + ":99"), 2);
        }
        for (int name = 0; name < 14; name++) {
            edge.due("last letter of " + name, x.sign(name, 7), 'a' + name);
        }
        edge.due("sum of frequency times length", x.about(6), 14 * 8 * 99);
        // The digit of n is that of m: the groups are abc, def, ghi, jkl and mn.
        edge.due("names with twins", x.about(2), 14);
        edge.due("different codes", x.about(3), 5);
        edge.due("the last of the last group", x.name(13, 5), 1);
        // By the place among all, or by eight digits and the place among the twins: 1 to 9, and then 9, 10, 11, 9, 10.
        edge.due("sum of frequency times presses", x.about(5), 99 * (45 + 9 + 10 + 11 + 9 + 10));
    }

    // "and a frequency from 1 to 99"
    private static void frequencyOfNinetyNine() {
        edge.due(Scene.of("99", "write a:99", "names"), "name 0 1", 99);
        edge.due(Scene.of("1", "write a:1", "names"), "name 0 1", 1);
        edge.still(Scene.of("100", "write a:100"), "names", STATE);
        edge.still(Scene.of("0", "write a:0"), "names", STATE);
        for (int frequency = 1; frequency <= 99; frequency++) {
            edge.due(Scene.of("frequency", "write a:" + frequency, "names"), "about 1", frequency);
        }
    }

    private static void fourteenFrequenciesOfNinetyNine() {
        String ofA = "a:99;b:99;c:99;d:99;e:99;f:99;g:99";
        Scene scene = Scene.of("all at 99", "write " + ofA, "names", "write h:99;i:99;j:99;k:99;l:99;m:99;n:99", "names");
        edge.still(scene, "about 1", 14 * 99);
        edge.due(scene, "build 2", 54 * 99);
        edge.due(scene, "build 3", 36 * 99);
        edge.due(scene, "build 4", 28 * 99);
        edge.due(scene.and("built", "build 2"), "menu 1", 54 * 99);
        edge.still(scene.and("built", "build 2"), "tend 0", Edge.NONE);
    }

    private static void heaviestAndLightest() {
        // The chain with the paths 1, 21, 221, .. turned around: the last name has become the heaviest.
        Scene scene = Scene.of("turned around", "write a:99;b:60;c:34;d:21;e:13;f:8;g:5;h:1", "names", "build 2", "use 0 1",
            "use 1 1", "use 2 1", "use 3 1", "use 4 1", "use 5 1", "use 6 1", "use 7 99");
        edge.still(scene, "menu 1", 1 + 2 + 3 + 4 + 5 + 6 + 7 + 7 * 99);
        edge.still(scene, "menu 2", 99 + 7 + 20);
        edge.due(scene, "tend 100", 8);
        edge.due(scene.and("tended", "tend 100"), "menu 1", 126);
        edge.due(scene.and("tended", "tend 100"), "name 7 6", 1);
    }
}
