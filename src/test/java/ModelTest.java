import java.util.ArrayList;
import java.util.List;
import java.util.Random;

/** Holds the class against the model in long runs of calls, always the same ones. */
public final class ModelTest {
    private static final int RUNS = 200;
    // Of readings and of menus alone, of which the other runs meet the rare cases too seldom.
    private static final int MORE_RUNS = 100;
    // With the digest at the end as many as the document allows.
    private static final int CALLS = 511;
    private static final int MOST_SHOWN = 20;

    private final Random random;
    private final Check check;
    private final DialMenus real = new DialMenus();
    private final Model model = new Model();
    private final StringBuilder story = new StringBuilder();
    // Few letters make many twins, many letters make many codes.
    private final int letters;
    private final int longest;
    private int calls;

    private ModelTest(long seed, Check check) {
        random = new Random(seed);
        this.check = check;
        letters = new int[] {2, 4, 8, 26}[random.nextInt(4)];
        longest = new int[] {1, 2, 3, 8}[random.nextInt(4)];
    }

    public static void main(String[] args) {
        Check check = new Check();
        for (int seed = 0; seed < RUNS && check.wrong() < MOST_SHOWN; seed++) {
            new ModelTest(seed, check).run();
        }
        for (int seed = 0; seed < MORE_RUNS && check.wrong() < MOST_SHOWN; seed++) {
            new ModelTest(seed, check).runReadings();
            new ModelTest(seed, check).runMenus();
        }
        check.end();
    }

    private void run() {
        while (calls < CALLS && check.wrong() < MOST_SHOWN) {
            step();
        }
        digest();
    }

    // Short names on four digits: many readings are nearly as good as the best one.
    private void runReadings() {
        for (int number = 3 + random.nextInt(8); number > 0; number--) {
            write(wordOf("abdegj", 1 + random.nextInt(4)) + ":1");
            call("names", 0, 0);
        }
        while (calls < CALLS && check.wrong() < MOST_SHOWN) {
            call("wipe", 0, 0);
            for (int length = 2 + random.nextInt(9); length > 0; length--) {
                call("press", 2 + random.nextInt(4), 0);
            }
            for (int what = 0; what <= 3; what++) {
                call("spelling", what, 0);
            }
            for (int place = 0; place <= model.call("spelling", 2, 0); place++) {
                call("piece", place, 0);
            }
        }
        digest();
    }

    // Frequencies that are nearly the same: many menus are nearly as cheap as the cheapest one.
    private void runMenus() {
        int heaviest = 2 + random.nextInt(4);
        for (int number = 2 + random.nextInt(9); number > 0; number--) {
            write(wordOf("abcdefghijklmnop", 1) + ":" + (1 + random.nextInt(heaviest)));
            call("names", 0, 0);
        }
        int names = model.call("count", 0, 0);
        while (calls < CALLS && check.wrong() < MOST_SHOWN) {
            call("build", 2 + random.nextInt(3), 0);
            for (int number = random.nextInt(4); number > 0; number--) {
                call("use", random.nextInt(names), 1 + random.nextInt(heaviest));
            }
            call("tend", random.nextInt(random.nextBoolean() ? 1 : 20), 0);
            for (int what = 1; what <= 5; what++) {
                call("menu", what, 0);
            }
            for (int name = 0; name < names; name++) {
                call("path", name, 0);
                call("path", name, 1);
                call("name", name, 6);
            }
        }
        digest();
    }

    private String wordOf(String signs, int length) {
        StringBuilder word = new StringBuilder();
        while (word.length() < length) {
            word.append(signs.charAt(random.nextInt(signs.length())));
        }
        return word.toString();
    }

    private void step() {
        switch (random.nextInt(16)) {
            case 0:
                writeList();
                break;
            case 1:
                if (random.nextInt(4) == 0) {
                    writeKeypad();
                }
                break;
            case 2:
                typeName();
                break;
            case 3:
                call("build", 2 + random.nextInt(3), 0);
                break;
            case 4:
                call("use", small(14), 1 + random.nextInt(random.nextBoolean() ? 99 : 5));
                break;
            case 5:
                call("tend", random.nextInt(101), 0);
                break;
            case 6:
                if (random.nextInt(8) == 0) {
                    call("drop", small(14), 0);
                }
                break;
            case 7:
                if (random.nextInt(8) == 0) {
                    digest();
                }
                break;
            default:
                call(Calls.METHODS[Calls.TEXTS + random.nextInt(Calls.METHODS.length - Calls.TEXTS)]);
                break;
        }
    }

    // ---- calls with arguments that mostly mean something

    private void call(String method) {
        if (method.equals("drop") && random.nextInt(10) != 0) {
            return;
        }
        if (random.nextInt(12) == 0) {
            call(method, odd(), odd());
        } else if (random.nextInt(12) == 0) {
            call(method, small(14), odd());
        } else if (method.equals("leads")) {
            call(method, parts(), 0);
        } else if (method.equals("laid")) {
            call(method, 'a' + small(26), 0);
        } else {
            call(method, small(14), small(8));
        }
    }

    private int small(int bound) {
        return random.nextInt(bound + 3) - 1;
    }

    private int odd() {
        return random.nextBoolean() ? Calls.ODD[random.nextInt(Calls.ODD.length)] : random.nextInt();
    }

    private int parts() {
        int parts = 0;
        for (int digit = random.nextInt(6); digit > 0; digit--) {
            parts = 10 * parts + random.nextInt(random.nextInt(5) == 0 ? 10 : 3) + (random.nextInt(8) == 0 ? 0 : 1);
        }
        return parts;
    }

    private String word() {
        StringBuilder word = new StringBuilder();
        for (int length = 1 + random.nextInt(longest); length > 0; length--) {
            word.append((char) ('a' + random.nextInt(letters)));
        }
        return word.toString();
    }

    private void writeList() {
        List<String> items = new ArrayList<>();
        for (int number = 1 + random.nextInt(6); number > 0; number--) {
            items.add(word() + ":" + (1 + random.nextInt(random.nextBoolean() ? 99 : 4)));
        }
        write(spoilt(String.join(";", items)));
        call("fault", 0, 0);
        call(random.nextInt(20) == 0 ? "dial" : "names", 0, 0);
    }

    private void writeKeypad() {
        boolean[] comma = new boolean[26];
        for (int commas = 0; commas < 7;) {
            int at = 1 + random.nextInt(25);
            commas += comma[at] ? 0 : 1;
            comma[at] = true;
        }
        StringBuilder keypad = new StringBuilder();
        for (int at = 0; at < 26; at++) {
            keypad.append(comma[at] ? "," : "").append((char) ('a' + at));
        }
        write(spoilt(keypad.toString()));
        call("fault", 0, 0);
        call(random.nextInt(20) == 0 ? "names" : "dial", 0, 0);
    }

    private String spoilt(String text) {
        if (random.nextInt(3) != 0) {
            return text;
        }
        StringBuilder spoilt = new StringBuilder(text);
        int at = random.nextInt(spoilt.length());
        String signs = "ab:;,019 zZ{`/";
        switch (random.nextInt(3)) {
            case 0:
                spoilt.deleteCharAt(at);
                break;
            case 1:
                spoilt.insert(at, signs.charAt(random.nextInt(signs.length())));
                break;
            default:
                spoilt.setCharAt(at, signs.charAt(random.nextInt(signs.length())));
                break;
        }
        return spoilt.toString();
    }

    private void write(String text) {
        if (random.nextInt(10) != 0) {
            call("blank", 0, 0);
        }
        for (char letter : text.toCharArray()) {
            call("letter", letter, 0);
        }
    }

    // Digits of names make readings that are worth their name.
    private void typeName() {
        if (random.nextInt(3) == 0) {
            call("wipe", 0, 0);
        }
        int name = random.nextInt(14);
        for (int place = 0; place < 8; place++) {
            int digit = model.call("digit", name, place);
            if (digit > 0) {
                call("press", digit, 0);
            }
        }
        call("spelling", random.nextInt(4), 0);
        call("piece", random.nextInt(10), 0);
        call("choice", random.nextInt(4), 0);
    }

    // ---- one call of both

    private void call(String method, int a, int b) {
        if (calls >= CALLS) {
            return;
        }
        calls++;
        story.append(' ').append(method).append('(').append(a).append(", ").append(b).append(')');
        int want = model.call(method, a, b);
        int got = Calls.answer(real, method, a, b);
        check.due(got == want ? method : "after" + story + " the last", got, want);
    }

    private void digest() {
        calls++;
        story.append(" digest()");
        long want = model.digest();
        long got = real.digest();
        check.due(got == want ? "digest" : "after" + story + " the last", got, want);
    }
}
