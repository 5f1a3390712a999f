/** Calls a method of the class by its name. */
final class Calls {
    static final String[] METHODS = {
        "letter", "blank", "fault", "names", "dial", "drop", "use", "name", "sign", "digit", "laid", "about", "press",
        "back", "wipe", "typed", "choice", "spelling", "piece", "build", "tend", "path", "leads", "menu", "count"
    };
    // So many of them, the first ones, are about the text.
    static final int TEXTS = 5;
    static final int[] ODD = {
        Integer.MIN_VALUE, Integer.MIN_VALUE + 1, -1000000, -102, -101, -3, -2, -1, 15, 26, 31, 32, 49, 50, 51, 96, 97, 99,
        100, 101, 122, 123, 126, 127, 128, 1000, 2111111111, Integer.MAX_VALUE - 1, Integer.MAX_VALUE
    };

    private Calls() {
    }

    static int answer(DialMenus x, String method, int a, int b) {
        switch (method) {
            case "letter": return x.letter(a);
            case "blank": return x.blank();
            case "fault": return x.fault();
            case "names": return x.names();
            case "dial": return x.dial();
            case "drop": return x.drop(a);
            case "use": return x.use(a, b);
            case "name": return x.name(a, b);
            case "sign": return x.sign(a, b);
            case "digit": return x.digit(a, b);
            case "laid": return x.laid(a);
            case "about": return x.about(a);
            case "press": return x.press(a);
            case "back": return x.back();
            case "wipe": return x.wipe();
            case "typed": return x.typed(a);
            case "choice": return x.choice(a);
            case "spelling": return x.spelling(a);
            case "piece": return x.piece(a);
            case "build": return x.build(a);
            case "tend": return x.tend(a);
            case "path": return x.path(a, b);
            case "leads": return x.leads(a);
            case "menu": return x.menu(a);
            case "count": return x.count(a);
            default: throw new IllegalArgumentException(method);
        }
    }
}
