import java.util.Arrays;

/** Counts and prints the answers that are not as due; shared by the tests of the project. */
final class Check {
    private int asDue;
    private int wrong;

    void due(String call, long got, long want) {
        if (got == want) {
            asDue++;
            return;
        }
        wrong++;
        System.out.println(call + " answered " + got + ", due is " + want);
    }

    void due(String call, int[] got, int[] want) {
        due(call + ": " + Arrays.toString(got) + " for " + Arrays.toString(want), Arrays.equals(got, want) ? 1 : 0, 1);
    }

    void holds(String what, boolean holds) {
        due(what, holds ? 1 : 0, 1);
    }

    int wrong() {
        return wrong;
    }

    void end() {
        System.out.println(asDue + " passed, " + wrong + " failed");
        if (wrong != 0) {
            System.exit(1);
        }
    }

    // ---- what many tests do with an object

    static void write(DialMenus x, String text) {
        for (int at = 0; at < text.length(); at++) {
            x.letter(text.charAt(at));
        }
    }

    static DialMenus with(String list) {
        DialMenus x = new DialMenus();
        addNames(x, list);
        return x;
    }

    static int addNames(DialMenus x, String list) {
        x.blank();
        write(x, list);
        return x.names();
    }

    static int takeKeypad(DialMenus x, String keypad) {
        x.blank();
        write(x, keypad);
        return x.dial();
    }

    static void type(DialMenus x, String digits) {
        x.wipe();
        for (int at = 0; at < digits.length(); at++) {
            x.press(digits.charAt(at) - '0');
        }
    }

    static int[] choices(DialMenus x) {
        return upTo(place -> x.choice(place));
    }

    static int[] pieces(DialMenus x) {
        return upTo(place -> x.piece(place));
    }

    static int[] path(DialMenus x, int name) {
        return upTo(step -> x.path(name, step));
    }

    private static int[] upTo(java.util.function.IntUnaryOperator answer) {
        int[] row = new int[20];
        int size = 0;
        while (size < row.length && answer.applyAsInt(size) > DialMenus.UNKNOWN) {
            row[size] = answer.applyAsInt(size);
            size++;
        }
        return Arrays.copyOf(row, size);
    }

    static String word(DialMenus x, int name) {
        StringBuilder word = new StringBuilder();
        for (int place = 0; x.sign(name, place) > 0; place++) {
            word.append((char) x.sign(name, place));
        }
        return word.toString();
    }
}
