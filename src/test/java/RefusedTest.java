import java.util.ArrayList;
import java.util.List;

/**
 * Refused calls. "Each method names its errors in the order in which they are checked, and returns the first that applies; a
 * call that returns an error changes nothing." One method for each method of the document that can return an error: each of
 * its errors, and what comes first where two apply; after each of them all answers and the digest are as before.
 */
public final class RefusedTest {
    private static final int NONE = Edge.NONE, UNKNOWN = Edge.UNKNOWN, OUTSIDE = Edge.OUTSIDE, STATE = Edge.STATE,
        FULL = Edge.FULL;
    private static final int[] ODD = {
        Integer.MIN_VALUE, -1, 0, 1, 2, 5, 9, 10, 14, 31, 32, 97, 100, 101, 123, 127, Integer.MAX_VALUE
    };
    private static final String TELLING =
        " fault name sign digit laid about typed choice spelling piece path leads menu count ";
    private static final Edge edge = new Edge();

    public static void main(String[] args) {
        letter();
        names();
        namesLeavesTheText();
        dial();
        dialLeavesTheText();
        drop();
        use();
        name();
        sign();
        digit();
        laid();
        about();
        press();
        back();
        typed();
        choice();
        spelling();
        piece();
        build();
        tend();
        path();
        leads();
        menu();
        count();
        noneOnlyWithoutError();
        neverRefused();
        manyRefusedInARow();
        anyErrorInAnyScene();
        edge.end();
    }

    // OUTSIDE, FULL
    private static void letter() {
        edge.still(Scenes.BEGUN, "letter 31", OUTSIDE);
        edge.still(Scenes.BEGUN, "letter 127", OUTSIDE);
        edge.still(Scenes.FULL_TEXT, "letter 97", FULL);
        // Both: the range comes first.
        edge.still(Scenes.FULL_TEXT, "letter 31", OUTSIDE);
        edge.still(Scenes.FULL_TEXT, "letter 127", OUTSIDE);
    }

    private static Scene with(Scene scene, String text) {
        return scene.and(scene + " and the text '" + text + "'", "blank", "write " + text);
    }

    // STATE (no list, or a name that is there), FULL
    private static void names() {
        edge.still(Scenes.BEGUN, "names", STATE);
        edge.still(with(Scenes.MENU, "f:1;"), "names", STATE);
        edge.still(with(Scenes.MENU, "f:0"), "names", STATE);
        edge.still(with(Scenes.MENU, "f:1;f:2"), "names", STATE);
        edge.still(with(Scenes.MENU, "a:1"), "names", STATE);
        edge.still(with(Scenes.MENU, "f:1;g:1;e:1"), "names", STATE);
        edge.still(with(Scenes.MENU, "e:1;f:1;g:1"), "names", STATE);
        edge.still(with(Scenes.LONG, "zzzzzzzz:1"), "names", STATE);
        edge.still(with(Scenes.FULL_NAMES, "o:1"), "names", FULL);
        edge.still(with(Scenes.FULL_NAMES, "aa:1;ab:2"), "names", FULL);
        // Both: a name that is there, or no list, comes before the room.
        edge.still(with(Scenes.FULL_NAMES, "a:1"), "names", STATE);
        edge.still(with(Scenes.FULL_NAMES, "o:1;a:1"), "names", STATE);
        edge.still(with(Scenes.FULL_NAMES, "o:1;n:1"), "names", STATE);
        edge.still(with(Scenes.FULL_NAMES, "o:1;p"), "names", STATE);
        edge.still(with(Scenes.FULL_NAMES, "o:1;o:1"), "names", STATE);
        edge.still(with(Scenes.FULL_NAMES, Scenes.PLAIN), "names", STATE);
        // A name that only begins like one that is there, or of which one is the beginning, is another one.
        edge.due(with(Scenes.LONG, "zzzzzzz:1;a:1"), "names", 2);
        edge.due(with(Scenes.MENU, "aa:1"), "names", 1);
    }

    private static void namesLeavesTheText() {
        DialMenus known = Check.with("a:1;b:2");
        Check.write(known, "b:9;c:3");
        edge.due("b is there", known.names(), STATE);
        edge.due("all of the text is there", known.count(1), 7);
        edge.due("b goes", known.drop(1), 1);
        edge.due("the text is read after all", known.names(), 2);
        edge.due("with its frequency", known.name(1, 1), 9);

        DialMenus early = new DialMenus();
        Check.write(early, "a:1;b:");
        edge.due("it ends too early", early.names(), STATE);
        edge.due("it goes on where it was", early.letter('5'), 7);
        edge.due("now it is a list", early.names(), 2);
        edge.due("with both names", early.name(1, 1), 5);

        DialMenus keypad = new DialMenus();
        Check.write(keypad, Scenes.WIDE);
        edge.due("a keypad is no list", keypad.names(), STATE);
        edge.due("but still a keypad", keypad.dial(), 19);

        DialMenus full = Scenes.FULL_NAMES.make();
        edge.due("no room", full.names(), FULL);
        edge.due("no room again", full.names(), FULL);
        edge.due("one goes", full.drop(0), 13);
        edge.due("now there is room", full.names(), 1);
        edge.due("o is there", full.sign(13, 0), 'o');
    }

    // STATE
    private static void dial() {
        edge.still(Scenes.BEGUN, "dial", STATE);
        edge.still(Scenes.FULL_TEXT, "dial", STATE);
        edge.still(Scenes.LONG, "dial", STATE);
        edge.still(with(Scenes.MENU, Scenes.PLAIN + ","), "dial", STATE);
        edge.still(with(Scenes.MENU, Scenes.WIDE.substring(0, 32)), "dial", STATE);
        // All but the last letters fit another keypad: none of it may be taken.
        edge.still(with(Scenes.LONG, "abc,def,ghi,jkl,mno,pqrs,tuv,wxzy"), "dial", STATE);
        edge.still(with(Scenes.LONG, "a,b,c,d,e,f,ghijklmnopqrstuvwxyz"), "dial", STATE);
        edge.still(with(Scenes.LONG, "a,b,c,d,e,f,g,h,ijklmnopqrstuvwxyz"), "dial", STATE);
    }

    private static void dialLeavesTheText() {
        DialMenus early = new DialMenus();
        Check.write(early, Scenes.PLAIN.substring(0, 32));
        edge.due("it ends too early", early.dial(), STATE);
        edge.due("the keypad is the old one", early.laid('y'), 9);
        edge.due("it goes on where it was", early.letter('z'), 33);
        edge.due("now it is a keypad", early.dial(), 4);

        DialMenus list = new DialMenus();
        Check.write(list, "a:1;b:2");
        edge.due("a list is no keypad", list.dial(), STATE);
        edge.due("but still a list", list.names(), 2);
    }

    // UNKNOWN
    private static void drop() {
        edge.still(Scenes.FRESH, "drop 0", UNKNOWN);
        edge.still(Scenes.MENU, "drop 5", UNKNOWN);
        edge.still(Scenes.MENU, "drop -1", UNKNOWN);
        edge.still(Scenes.FULL_NAMES, "drop 14", UNKNOWN);
    }

    // UNKNOWN, OUTSIDE
    private static void use() {
        edge.still(Scenes.MENU, "use 5 1", UNKNOWN);
        edge.still(Scenes.MENU, "use -1 99", UNKNOWN);
        edge.still(Scenes.MENU, "use 0 0", OUTSIDE);
        edge.still(Scenes.MENU, "use 4 100", OUTSIDE);
        // Both: the name comes first.
        edge.still(Scenes.MENU, "use 5 0", UNKNOWN);
        edge.still(Scenes.MENU, "use -1 100", UNKNOWN);
        edge.still(Scenes.FRESH, "use 0 100", UNKNOWN);
    }

    // UNKNOWN, OUTSIDE
    private static void name() {
        edge.still(Scenes.MENU, "name 5 0", UNKNOWN);
        edge.still(Scenes.MENU, "name -1 7", UNKNOWN);
        edge.still(Scenes.MENU, "name 0 8", OUTSIDE);
        edge.still(Scenes.MENU, "name 4 -1", OUTSIDE);
        // Both: the name comes first.
        edge.still(Scenes.MENU, "name 5 8", UNKNOWN);
        edge.still(Scenes.MENU, "name -1 -1", UNKNOWN);
        edge.still(Scenes.FRESH, "name 0 8", UNKNOWN);
    }

    // UNKNOWN, for the name and for the position
    private static void sign() {
        unknownNameOrPlace("sign");
    }

    // UNKNOWN, for the name and for the position
    private static void digit() {
        unknownNameOrPlace("digit");
    }

    private static void unknownNameOrPlace(String method) {
        edge.still(Scenes.FIVE, method + " 5 0", UNKNOWN);
        edge.still(Scenes.FIVE, method + " -1 0", UNKNOWN);
        edge.still(Scenes.FIVE, method + " 1 4", UNKNOWN);
        edge.still(Scenes.FIVE, method + " 1 -1", UNKNOWN);
        edge.still(Scenes.FIVE, method + " 5 9", UNKNOWN);
        edge.still(Scenes.FRESH, method + " 0 0", UNKNOWN);
    }

    // OUTSIDE
    private static void laid() {
        edge.still(Scenes.LONG, "laid 96", OUTSIDE);
        edge.still(Scenes.LONG, "laid 123", OUTSIDE);
    }

    // OUTSIDE
    private static void about() {
        edge.still(Scenes.FIVE, "about -1", OUTSIDE);
        edge.still(Scenes.FIVE, "about 7", OUTSIDE);
        edge.still(Scenes.FRESH, "about 7", OUTSIDE);
    }

    // OUTSIDE, FULL
    private static void press() {
        edge.still(Scenes.FIVE, "press 1", OUTSIDE);
        edge.still(Scenes.FIVE, "press 10", OUTSIDE);
        edge.still(Scenes.FULL_INPUT, "press 2", FULL);
        edge.still(Scenes.FULL_INPUT, "press 9", FULL);
        // Both: the range comes first.
        edge.still(Scenes.FULL_INPUT, "press 1", OUTSIDE);
        edge.still(Scenes.FULL_INPUT, "press 10", OUTSIDE);
    }

    // STATE
    private static void back() {
        edge.still(Scenes.FRESH, "back", STATE);
        edge.still(Scenes.FULL_TEXT, "back", STATE);
        edge.still(Scenes.FIVE.and("wiped", "wipe"), "back", STATE);
    }

    // UNKNOWN
    private static void typed() {
        edge.still(Scenes.FIVE, "typed 3", UNKNOWN);
        edge.still(Scenes.FIVE, "typed -1", UNKNOWN);
        edge.still(Scenes.FRESH, "typed 0", UNKNOWN);
    }

    // UNKNOWN
    private static void choice() {
        edge.still(Scenes.FIVE, "choice 2", UNKNOWN);
        edge.still(Scenes.FIVE, "choice -1", UNKNOWN);
        edge.still(Scenes.FRESH, "choice 0", UNKNOWN);
    }

    // OUTSIDE
    private static void spelling() {
        edge.still(Scenes.FIVE, "spelling 4", OUTSIDE);
        edge.still(Scenes.FIVE, "spelling -1", OUTSIDE);
        edge.still(Scenes.FRESH, "spelling 4", OUTSIDE);
    }

    // UNKNOWN
    private static void piece() {
        edge.still(Scenes.FIVE, "piece 1", UNKNOWN);
        edge.still(Scenes.FIVE, "piece -1", UNKNOWN);
        edge.still(Scenes.FRESH, "piece 0", UNKNOWN);
    }

    // OUTSIDE, STATE
    private static void build() {
        edge.still(Scenes.MENU, "build 1", OUTSIDE);
        edge.still(Scenes.MENU, "build 5", OUTSIDE);
        edge.still(Scenes.FRESH, "build 2", STATE);
        edge.still(Scenes.GONE, "build 4", STATE);
        // Both: the range comes first.
        edge.still(Scenes.FRESH, "build 1", OUTSIDE);
        edge.still(Scenes.GONE, "build 5", OUTSIDE);
    }

    // STATE, OUTSIDE
    private static void tend() {
        edge.still(Scenes.FIVE, "tend 0", STATE);
        edge.still(Scenes.FRESH, "tend 100", STATE);
        edge.still(Scenes.MENU, "tend -1", OUTSIDE);
        edge.still(Scenes.MENU, "tend 101", OUTSIDE);
        // Both: the state comes first.
        edge.still(Scenes.FIVE, "tend -1", STATE);
        edge.still(Scenes.FRESH, "tend 101", STATE);
        edge.still(Scenes.GONE, "tend 101", STATE);
    }

    // STATE, UNKNOWN
    private static void path() {
        edge.still(Scenes.FIVE, "path 0 0", STATE);
        edge.still(Scenes.MENU, "path 5 0", UNKNOWN);
        edge.still(Scenes.MENU, "path -1 0", UNKNOWN);
        edge.still(Scenes.MENU, "path 0 2", UNKNOWN);
        edge.still(Scenes.MENU, "path 0 -1", UNKNOWN);
        // Both: the state comes first.
        edge.still(Scenes.FIVE, "path 5 0", STATE);
        edge.still(Scenes.FIVE, "path 0 -1", STATE);
        edge.still(Scenes.FRESH, "path -1 -1", STATE);
        edge.still(Scenes.GONE, "path 0 0", STATE);
    }

    // STATE, UNKNOWN
    private static void leads() {
        edge.still(Scenes.FIVE, "leads 0", STATE);
        edge.still(Scenes.MENU, "leads 3", UNKNOWN);
        edge.still(Scenes.MENU, "leads -1", UNKNOWN);
        edge.still(Scenes.MENU, "leads 10", UNKNOWN);
        // Both: the state comes first.
        edge.still(Scenes.FIVE, "leads 9", STATE);
        edge.still(Scenes.FIVE, "leads -1", STATE);
        edge.still(Scenes.FRESH, "leads 10", STATE);
    }

    // STATE, OUTSIDE
    private static void menu() {
        edge.still(Scenes.FIVE, "menu 0", STATE);
        edge.still(Scenes.MENU, "menu 7", OUTSIDE);
        edge.still(Scenes.MENU, "menu -1", OUTSIDE);
        // Both: the state comes first.
        edge.still(Scenes.FIVE, "menu 7", STATE);
        edge.still(Scenes.FRESH, "menu -1", STATE);
    }

    // OUTSIDE
    private static void count() {
        edge.still(Scenes.FIVE, "count 6", OUTSIDE);
        edge.still(Scenes.FIVE, "count -1", OUTSIDE);
    }

    // "NONE (-1) is not an error; it means that there is no such thing, and is returned only if no error applies."
    private static void noneOnlyWithoutError() {
        // No menu, but no such name either.
        edge.still(Scenes.FIVE, "name 5 6", UNKNOWN);
        edge.still(Scenes.FIVE, "name 4 6", NONE);
        // No distinguishing length, but no such property either.
        edge.still(Scenes.FIVE, "name 0 3", NONE);
        edge.still(Scenes.FIVE, "name 0 8", OUTSIDE);
        edge.still(Scenes.FRESH, "about 4", NONE);
        // The menu would stay, but the slack is out of range.
        Scene best = Scenes.MENU.and("a menu that is the best", "build 2");
        edge.still(best, "tend 0", NONE);
        edge.still(best, "tend 101", OUTSIDE);
        edge.still(best, "tend -1", OUTSIDE);
        // The menu is not the best, but good enough: it stays, and so does all else.
        edge.still(Scenes.MENU, "tend 100", NONE);
    }

    // blank, fault, wipe and digest have no errors, in no state; fault and digest change nothing.
    private static void neverRefused() {
        for (Scene scene : Scenes.ALL) {
            for (String call : new String[] {"blank", "fault", "wipe"}) {
                edge.holds(scene + ": " + call, Call.of(call).on(scene.make()) >= 0);
            }
            edge.still(scene, "fault", Call.of("fault").on(scene.make()));
            edge.still(scene, "digest", Call.of("digest").on(scene.make()));
        }
    }

    private static void manyRefusedInARow() {
        for (Scene scene : new Scene[] {Scenes.FRESH, Scenes.MENU, Scenes.FULL_NAMES}) {
            List<Call> refused = new ArrayList<>();
            for (String method : Calls.METHODS) {
                for (int a : ODD) {
                    Call call = new Call(method, a, a);
                    if (refused.size() < 300 && Call.isError(call.on(scene.make()))) {
                        refused.add(call);
                    }
                }
            }
            String difference = Scene.difference(scene.told(), scene.toldAfter(refused.toArray(new Call[0])));
            edge.holds(scene + ": after all refused calls " + difference, difference.isEmpty());
        }
    }

    // Whatever is refused, and whatever only tells, in each scene and with odd arguments.
    private static void anyErrorInAnyScene() {
        for (Scene scene : Scenes.ALL) {
            for (String method : Calls.METHODS) {
                for (int a : ODD) {
                    for (int b : new int[] {Integer.MIN_VALUE, -1, 0, 3, 8, 100, Integer.MAX_VALUE}) {
                        tryCall(scene, new Call(method, a, b));
                    }
                }
            }
        }
    }

    private static void tryCall(Scene scene, Call call) {
        long answer = call.on(scene.make());
        if (Call.isError(answer) || TELLING.contains(" " + call.method() + " ")) {
            edge.still(scene, call, answer);
        }
    }
}
