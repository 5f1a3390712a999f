import java.math.BigInteger;
import java.util.ArrayList;
import java.util.List;

/** What wraps around: the numbers of readings modulo 1000000, and the digest in long arithmetic. */
public final class WrapTest {
    private static final BigInteger MILLION = BigInteger.valueOf(1000000);
    private static final Edge edge = new Edge();

    public static void main(String[] args) {
        readingsModuloMillion();
        fewestDigitsModuloMillion();
        exactlyMillion();
        bestReadingDoesNotWrap();
        digestWraps();
        digestOfTheNewObject();
        edge.end();
    }

    // So many names of one letter, all with the digit 2, and so many digits 2 typed.
    private static Scene twos(int names, int digits) {
        StringBuilder list = new StringBuilder();
        for (int name = 0; name < Math.min(names, 12); name++) {
            list.append(name > 0 ? ";" : "").append((char) ('a' + name)).append(":1");
        }
        Scene scene = Scene.of(names + " names, " + digits + " digits", "write " + Scenes.WIDE, "dial");
        if (names > 0) {
            scene = scene.and(scene.name, "write " + list, "names");
        }
        for (int name = 12; name < names; name++) {
            scene = scene.and(scene.name, "write " + (char) ('a' + name) + ":1", "names");
        }
        return scene.and(scene.name, "type " + "2".repeat(digits));
    }

    private static int power(int base, int exponent) {
        return BigInteger.valueOf(base).pow(exponent).mod(MILLION).intValue();
    }

    // spelling 0: "the number of readings modulo 1000000": each digit is read as itself or as one of the names
    private static void readingsModuloMillion() {
        for (int names = 0; names <= 14; names++) {
            for (int digits = 0; digits <= 10; digits++) {
                edge.due(twos(names, digits), "spelling 0", power(names + 1, digits));
            }
        }
    }

    // spelling 3: "the number of readings with as few pieces that are digits as the best one, modulo 1000000"
    private static void fewestDigitsModuloMillion() {
        for (int names = 1; names <= 14; names++) {
            for (int digits = 0; digits <= 10; digits++) {
                edge.due(twos(names, digits), "spelling 3", power(names, digits));
            }
        }
        edge.due(twos(0, 10), "spelling 3", 1);
    }

    private static void exactlyMillion() {
        // Ten ways for each of six digits.
        edge.due(twos(9, 6), "spelling 0", 0);
        edge.due(twos(9, 6), "spelling 3", 531441);
        edge.due(twos(10, 6), "spelling 3", 0);
        edge.due(twos(10, 6), "spelling 0", 771561);
        edge.due(twos(9, 5), "spelling 0", 100000);
        edge.due(twos(9, 7), "spelling 0", 0);
        edge.due(twos(14, 5), "spelling 0", 759375);
        // 14 to the 10th is far beyond an int.
        edge.due(twos(14, 10), "spelling 0", 390625);
        edge.due(twos(14, 10), "spelling 3", 654976);
    }

    // Only the numbers of readings are modulo: the pieces stay what they are, also where a number is 0.
    private static void bestReadingDoesNotWrap() {
        for (Scene scene : new Scene[] {twos(9, 6), twos(10, 6)}) {
            edge.due(scene, "spelling 1", 0);
            edge.due(scene, "spelling 2", 6);
            edge.due(scene, "piece 5", 0);
            edge.due(scene, "piece 6", Edge.UNKNOWN);
        }
    }

    // "sets h = 31 * h + v in long arithmetic, which wraps": the sum over all integers, cut to 64 bits
    private static void digestWraps() {
        for (Scene scene : Scenes.ALL) {
            BigInteger h = BigInteger.valueOf(1571);
            for (long v : numbers(scene)) {
                h = h.multiply(BigInteger.valueOf(31)).add(BigInteger.valueOf(v));
            }
            edge.holds(scene + ": the sum is beyond a long", h.bitLength() > 64);
            edge.due(scene + ": digest", scene.make().digest(), h.longValue());
        }
    }

    private static void digestOfTheNewObject() {
        BigInteger h = BigInteger.valueOf(1571);
        for (char digit : "22233344455566677778889999".toCharArray()) {
            h = h.multiply(BigInteger.valueOf(31)).add(BigInteger.valueOf(digit - '0'));
        }
        for (int v : new int[] {0, 0, 0, 0, -1, 0, 0, 1, 0, 0, 1, 0, 0, 0, 0, 0, 0}) {
            h = h.multiply(BigInteger.valueOf(31)).add(BigInteger.valueOf(v));
        }
        edge.due("the digest of a new object", new DialMenus().digest(), h.longValue());
    }

    // "The numbers are: ..", in the document's order; each answer comes from an object of its own.
    private static List<Long> numbers(Scene scene) {
        List<Long> all = new ArrayList<>();
        addAll(all, scene, "laid", 'a', 'z');
        long names = Call.of("count 0").on(scene.make());
        for (int name = 0; name < names; name++) {
            addWhile(all, scene, "sign", name);
            for (int what = 0; what <= 7; what++) {
                all.add(new Call("name", name, what).on(scene.make()));
            }
            addWhile(all, scene, "digit", name);
        }
        addAll(all, scene, "about", 0, 6);
        addWhile(all, scene, "typed");
        addWhile(all, scene, "choice");
        addAll(all, scene, "spelling", 0, 3);
        addWhile(all, scene, "piece");
        if (!Call.isError(Call.of("menu 0").on(scene.make()))) {
            addAll(all, scene, "menu", 0, 6);
            for (int name = 0; name < names; name++) {
                addWhile(all, scene, "path", name);
            }
        }
        for (int code : scene.text()) {
            all.add((long) code);
        }
        addAll(all, scene, "count", 0, 5);
        return all;
    }

    private static void addAll(List<Long> all, Scene scene, String method, int low, int high) {
        for (int a = low; a <= high; a++) {
            all.add(new Call(method, a, 0).on(scene.make()));
        }
    }

    private static void addWhile(List<Long> all, Scene scene, String method) {
        long answer = 0;
        for (int place = 0; !Call.isError(answer = new Call(method, place, 0).on(scene.make())); place++) {
            all.add(answer);
        }
    }

    private static void addWhile(List<Long> all, Scene scene, String method, int name) {
        long answer = 0;
        for (int place = 0; !Call.isError(answer = new Call(method, name, place).on(scene.make())); place++) {
            all.add(answer);
        }
    }
}
