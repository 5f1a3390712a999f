/**
 * What became smaller again: an object that once held more answers as one that never did, but for what counts the calls of
 * the past. Each larger state is asked about before it is left, so that every row which is used again has been written.
 */
public final class TracesTest {
    private static final String[] ASK = {"spelling 0", "piece 0", "choice 0", "name 0 7", "about 5", "fault"};
    private static final Edge edge = new Edge();

    public static void main(String[] args) {
        shorterInput();
        shorterText();
        fewerNames();
        shorterNames();
        smallerMenu();
        narrowerMenu();
        otherKeypad();
        otherFrequencies();
        edge.end();
    }

    private static Scene asked(Scene scene) {
        return scene.and(scene.name, ASK);
    }

    private static void same(String what, Scene direct, Scene detour) {
        String difference = Scene.differenceButCounts(direct.told(), detour.told());
        edge.holds(what + ": " + difference, difference.isEmpty());
        // One question may write anew what the next one would have shown as a trace.
        String first = Scene.differenceButCounts(direct.toldFirst(), detour.toldFirst());
        edge.holds(what + ", asked first: " + first, first.isEmpty());
    }

    // back: "Removes the last digit of the input."; wipe: "Empties the input."
    private static void shorterInput() {
        Scene names = Scene.of("names", "write a:3;b:4;ad:5;dad:1;add:2", "names");
        Scene ten = asked(names.and("ten digits", "type 2323232329"));
        Scene detour = ten;
        for (int length = 9; length >= 0; length--) {
            detour = detour.and(length + " digits are left", "back");
            String left = "2323232329".substring(0, length);
            same("taken back to " + length, length == 0 ? names : names.and(left, "type " + left), detour);
            detour = asked(detour);
        }
        same("wiped", names, ten.and("wiped", "wipe"));
        same("typed anew", names.and("32", "type 32"), ten.and("typed anew", "wipe", "type 32"));
    }

    // blank: "Empties the text buffer."
    private static void shorterText() {
        Scene full = asked(Scenes.FULL_TEXT);
        same("blanked", Scenes.FRESH, full.and("blanked", "blank"));
        same("written anew", Scene.of("short", "write ab:1;c"), full.and("short again", "blank", "write ab:1;c"));
        same("a list again", Scene.of("list", "write x:7", "names"), full.and("list again", "blank", "write x:7", "names"));
        same("a keypad again", Scene.of("keypad", "write " + Scenes.WIDE, "dial"),
            full.and("keypad again", "blank", "write " + Scenes.WIDE, "dial"));
    }

    // drop: "Removes a name."
    private static void fewerNames() {
        Scene detour = asked(Scene.of("twelve", "write " + Scenes.TWELVE, "names", "build 4"));
        for (int left = 11; left >= 1; left--) {
            detour = detour.and(left + " names left", "drop " + left);
            Scene direct = Scene.of(left + " names", "write " + Scenes.TWELVE.substring(0, 4 * left - 1), "names");
            same("dropped to " + left, direct, detour);
            same("built from " + left, direct.and("built", "build 3"), detour.and("built", "build 3"));
            detour = asked(detour);
        }
        same("none left", Scenes.FRESH, detour.and("none left", "drop 0"));
    }

    private static void shorterNames() {
        Scene longer = asked(Scene.of("long names", "write abcdefgh:9;abcdefgi:9;hgfedcba:3", "names", "type 2223334"));
        same("shorter names", Scene.of("short names", "write ab:1;a:2", "names", "type 2223334"),
            longer.and("short names", "drop 0", "drop 0", "drop 0", "write ab:1;a:2", "names"));
    }

    private static void smallerMenu() {
        Scene chain = asked(Scene.of("a chain", "write a:89;b:55;c:34;d:21;e:13;f:8;g:5;h:3", "names", "build 2"));
        Scene two = Scene.of("two", "write a:89;b:55", "names", "build 2");
        same("a smaller menu", two, chain.and("two", "drop 7", "drop 6", "drop 5", "drop 4", "drop 3", "drop 2", "build 2"));
        same("an end", Scene.of("one", "write b:55", "names", "build 2"), chain.and("one", "drop 7", "drop 6", "drop 5",
            "drop 4", "drop 3", "drop 2", "drop 0", "build 2"));
    }

    // build: "Makes the optimal menu of a width the present menu."
    private static void narrowerMenu() {
        Scene names = Scene.of("nine names", "write a:3;b:1;c:4;d:1;e:5;f:9;g:2;h:6;i:5", "names");
        for (int first = 2; first <= 4; first++) {
            for (int then = 2; then <= 4; then++) {
                same("from " + first + " to " + then, names.and("built", "build " + then),
                    asked(names.and("built", "build " + first)).and("built again", "build " + then));
            }
        }
    }

    // dial: "Takes the keypad from the text buffer .. The input and the menu stay."
    private static void otherKeypad() {
        same("another keypad and back", Scenes.FIVE.and("no text", "blank"), asked(Scenes.FIVE.and("another", "blank",
            "write " + Scenes.WIDE, "dial")).and("and back", "write " + Scenes.PLAIN, "dial"));
    }

    // use: "Sets the frequency of a name."
    private static void otherFrequencies() {
        same("another frequency and back", Scenes.MENU, asked(Scenes.MENU.and("heavier", "use 2 99", "menu 2", "name 2 7"))
            .and("and back", "use 2 1"));
        same("tended as built", Scenes.MENU.and("built", "build 2"), Scenes.MENU.and("tended", "tend 0"));
    }
}
