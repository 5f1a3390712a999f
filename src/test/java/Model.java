import java.math.BigInteger;
import java.util.ArrayList;
import java.util.Collections;
import java.util.Comparator;
import java.util.HashMap;
import java.util.HashSet;
import java.util.List;
import java.util.Map;
import java.util.Set;
import java.util.TreeMap;
import java.util.regex.Pattern;

/**
 * The document said a second time, with strings, sets and trees and without a thought of speed, so that the class can be
 * held against it. It shares no idea with the class but the document.
 */
final class Model {
    private static final int NONE = -1, UNKNOWN = -101, OUTSIDE = -102, STATE = -103, FULL = -104;
    private static final Pattern KEYPAD = Pattern.compile("[a-z]+(,[a-z]+){7}");
    private static final Pattern LIST = Pattern.compile("[a-z]{1,8}:[1-9][0-9]?(;[a-z]{1,8}:[1-9][0-9]?)*");

    private final TreeMap<String, Integer> names = new TreeMap<>();
    private String keypad = "abc,def,ghi,jkl,mno,pqrs,tuv,wxyz";
    private String text = "";
    private String input = "";
    private Tree menu;
    private int width;
    private int made;
    private int lists;
    private int keypads;
    private int removed;

    /** A menu: an end if it has no parts. */
    private record Tree(List<Tree> parts, int first, int size) {
    }

    int call(String method, int a, int b) {
        switch (method) {
            case "letter": return letter(a);
            case "blank": return blank();
            case "fault": return fault();
            case "names": return names();
            case "dial": return dial();
            case "drop": return drop(a);
            case "use": return use(a, b);
            case "name": return name(a, b);
            case "sign": return known(a) && b >= 0 && b < word(a).length() ? word(a).charAt(b) : UNKNOWN;
            case "digit": return known(a) && b >= 0 && b < word(a).length() ? code(word(a)).charAt(b) - '0' : UNKNOWN;
            case "laid": return a < 97 || a > 122 ? OUTSIDE : digitOf((char) a) - '0';
            case "about": return about(a);
            case "press": return press(a);
            case "back": return back();
            case "wipe": return wipe();
            case "typed": return at(digitsOf(input), a);
            case "choice": return at(choice(input), a);
            case "spelling": return spelling(a);
            case "piece": return at(bestReading(), a);
            case "build": return build(a);
            case "tend": return tend(a);
            case "path": return menu == null ? STATE : known(a) ? at(path(menu, a), b) : UNKNOWN;
            case "leads": return leads(a);
            case "menu": return menu(a);
            case "count": return count(a);
            default: throw new IllegalArgumentException(method);
        }
    }

    private static int at(List<Integer> row, int place) {
        return place >= 0 && place < row.size() ? row.get(place) : UNKNOWN;
    }

    private static List<Integer> digitsOf(String digits) {
        List<Integer> row = new ArrayList<>();
        for (char digit : digits.toCharArray()) {
            row.add(digit - '0');
        }
        return row;
    }

    // ---- texts

    private int letter(int code) {
        if (code < 32 || code > 126) {
            return OUTSIDE;
        }
        if (text.length() == 50) {
            return FULL;
        }
        text += (char) code;
        return text.length();
    }

    private int blank() {
        int length = text.length();
        text = "";
        return length;
    }

    private int fault() {
        for (int end = 1; end <= text.length(); end++) {
            if (!canBegin(text.substring(0, end))) {
                return end - 1;
            }
        }
        return text.length();
    }

    // A beginning can be completed if one of these ends makes a list of it, but for names that occur twice.
    private static boolean canBegin(String start) {
        boolean completes = false;
        for (String end : new String[] {"", "1", ":1", "a:1"}) {
            completes |= LIST.matcher(start + end).matches();
        }
        return completes && !hasTwice(start);
    }

    // Only names with their colon count.
    private static boolean hasTwice(String list) {
        Set<String> seen = new HashSet<>();
        for (String item : list.split(";")) {
            if (item.contains(":") && !seen.add(item.substring(0, item.indexOf(':')))) {
                return true;
            }
        }
        return false;
    }

    private int names() {
        if (!LIST.matcher(text).matches() || hasTwice(text)) {
            return STATE;
        }
        Map<String, Integer> read = new HashMap<>();
        for (String item : text.split(";")) {
            read.put(item.split(":")[0], Integer.parseInt(item.split(":")[1]));
        }
        if (!Collections.disjoint(read.keySet(), names.keySet())) {
            return STATE;
        }
        if (read.size() + names.size() > 14) {
            return FULL;
        }
        names.putAll(read);
        text = "";
        menu = null;
        lists++;
        return read.size();
    }

    private int dial() {
        if (!KEYPAD.matcher(text).matches() || !text.replace(",", "").equals("abcdefghijklmnopqrstuvwxyz")) {
            return STATE;
        }
        keypad = text;
        text = "";
        keypads++;
        int largest = 0;
        for (String group : keypad.split(",")) {
            largest = Math.max(largest, group.length());
        }
        return largest;
    }

    // ---- names

    private boolean known(int name) {
        return name >= 0 && name < names.size();
    }

    private String word(int name) {
        return new ArrayList<>(names.keySet()).get(name);
    }

    private int frequency(int name) {
        return names.get(word(name));
    }

    private char digitOf(char letter) {
        String before = keypad.substring(0, keypad.indexOf(letter));
        return (char) ('2' + before.replaceAll("[^,]", "").length());
    }

    private String code(String word) {
        StringBuilder code = new StringBuilder();
        for (char letter : word.toCharArray()) {
            code.append(digitOf(letter));
        }
        return code.toString();
    }

    private List<String> codes() {
        List<String> codes = new ArrayList<>();
        for (String word : names.keySet()) {
            codes.add(code(word));
        }
        return codes;
    }

    private int drop(int name) {
        if (!known(name)) {
            return UNKNOWN;
        }
        names.remove(word(name));
        menu = null;
        removed++;
        return names.size();
    }

    private int use(int name, int v) {
        if (!known(name)) {
            return UNKNOWN;
        }
        if (v < 1 || v > 99) {
            return OUTSIDE;
        }
        return names.put(word(name), v);
    }

    private int name(int name, int what) {
        if (!known(name)) {
            return UNKNOWN;
        }
        String code = code(word(name));
        switch (what) {
            case 0: return code.length();
            case 1: return frequency(name);
            case 2: return Collections.frequency(codes(), code) - 1;
            case 3: return distinguishing(name);
            case 4: return presses(name);
            case 5: return choice(code).indexOf(name);
            case 6: return menu == null ? NONE : path(menu, name).size();
            case 7: return path(optimal(3), name).size();
            default: return OUTSIDE;
        }
    }

    private int distinguishing(int name) {
        List<String> others = codes();
        String code = others.remove(name);
        for (int k = 0; k <= code.length(); k++) {
            String prefix = code.substring(0, k);
            if (others.stream().noneMatch(other -> other.startsWith(prefix))) {
                return k;
            }
        }
        return NONE;
    }

    private int presses(int name) {
        String code = code(word(name));
        int least = Integer.MAX_VALUE;
        for (int k = 0; k <= code.length(); k++) {
            least = Math.min(least, k + choice(code.substring(0, k)).indexOf(name) + 1);
        }
        return least;
    }

    private int about(int what) {
        int sum = 0;
        int greatest = NONE;
        for (int name = 0; name < names.size(); name++) {
            switch (what) {
                case 0: sum++; break;
                case 1: sum += frequency(name); break;
                case 2: sum += name(name, 2) > 0 ? 1 : 0; break;
                case 4: greatest = Math.max(greatest, distinguishing(name)); break;
                case 5: sum += frequency(name) * presses(name); break;
                case 6: sum += frequency(name) * word(name).length(); break;
                default: break;
            }
        }
        if (what < 0 || what > 6) {
            return OUTSIDE;
        }
        return what == 3 ? new HashSet<>(codes()).size() : what == 4 ? greatest : sum;
    }

    private List<Integer> choice(String prefix) {
        List<Integer> list = new ArrayList<>();
        List<String> codes = codes();
        for (int name = 0; name < codes.size(); name++) {
            if (codes.get(name).startsWith(prefix)) {
                list.add(name);
            }
        }
        list.sort(Comparator.<Integer>comparingInt(name -> -frequency(name)).thenComparingInt(name -> name));
        return list;
    }

    // ---- typed

    private int press(int d) {
        if (d < 2 || d > 9) {
            return OUTSIDE;
        }
        if (input.length() == 10) {
            return FULL;
        }
        input += d;
        return input.length();
    }

    private int back() {
        if (input.isEmpty()) {
            return STATE;
        }
        input = input.substring(0, input.length() - 1);
        return input.length();
    }

    private int wipe() {
        int length = input.length();
        input = "";
        return length;
    }

    // By the number of their digits, the number of all readings of the first digits of the input.
    private Map<Integer, BigInteger> readingsOf(int end) {
        List<String> codes = codes();
        List<Map<Integer, BigInteger>> ways = new ArrayList<>();
        ways.add(Map.of(0, BigInteger.ONE));
        for (int to = 1; to <= end; to++) {
            Map<Integer, BigInteger> here = new HashMap<>();
            ways.get(to - 1).forEach((digits, number) -> here.merge(digits + 1, number, BigInteger::add));
            for (String code : codes) {
                if (input.substring(0, to).endsWith(code)) {
                    ways.get(to - code.length()).forEach((digits, number) -> here.merge(digits, number, BigInteger::add));
                }
            }
            ways.add(here);
        }
        return ways.get(end);
    }

    private int spelling(int what) {
        Map<Integer, BigInteger> readings = readingsOf(input.length());
        int fewest = Collections.min(readings.keySet());
        BigInteger million = BigInteger.valueOf(1000000);
        switch (what) {
            case 0: return readings.values().stream().reduce(BigInteger.ZERO, BigInteger::add).mod(million).intValue();
            case 1: return fewest;
            case 2: return bestReading().size();
            case 3: return readings.get(fewest).mod(million).intValue();
            default: return OUTSIDE;
        }
    }

    private List<Integer> bestReading() {
        BigInteger number = readingsOf(input.length()).values().stream().reduce(BigInteger.ZERO, BigInteger::add);
        List<Integer> stepwise = bestStepwise();
        if (number.compareTo(BigInteger.valueOf(300)) <= 0) {
            List<List<Integer>> all = new ArrayList<>();
            collect(0, new ArrayList<>(), all);
            all.sort(Model::compareReadings);
            if (all.size() != number.intValue() || !all.get(0).equals(stepwise)) {
                throw new IllegalStateException("the model is at odds with itself for " + input);
            }
        }
        return stepwise;
    }

    private void collect(int from, List<Integer> pieces, List<List<Integer>> all) {
        if (from == input.length()) {
            all.add(new ArrayList<>(pieces));
            return;
        }
        for (Map.Entry<Integer, Integer> piece : piecesAt(from).entrySet()) {
            pieces.add(piece.getKey());
            collect(from + piece.getValue(), pieces, all);
            pieces.remove(pieces.size() - 1);
        }
    }

    // The pieces that can be read at a place, with their lengths.
    private Map<Integer, Integer> piecesAt(int from) {
        Map<Integer, Integer> pieces = new TreeMap<>();
        pieces.put(-2 - (input.charAt(from) - '0'), 1);
        List<String> codes = codes();
        for (int name = 0; name < codes.size(); name++) {
            if (input.startsWith(codes.get(name), from)) {
                pieces.put(name, codes.get(name).length());
            }
        }
        return pieces;
    }

    private List<Integer> bestStepwise() {
        List<List<Integer>> best = new ArrayList<>(Collections.nCopies(input.length() + 1, List.of()));
        for (int from = input.length() - 1; from >= 0; from--) {
            List<List<Integer>> all = new ArrayList<>();
            for (Map.Entry<Integer, Integer> piece : piecesAt(from).entrySet()) {
                List<Integer> reading = new ArrayList<>(List.of(piece.getKey()));
                reading.addAll(best.get(from + piece.getValue()));
                all.add(reading);
            }
            best.set(from, Collections.min(all, Model::compareReadings));
        }
        return best.get(0);
    }

    private static int compareReadings(List<Integer> one, List<Integer> other) {
        long digits = one.stream().filter(piece -> piece < 0).count();
        long otherDigits = other.stream().filter(piece -> piece < 0).count();
        if (digits != otherDigits) {
            return Long.compare(digits, otherDigits);
        }
        if (one.size() != other.size()) {
            return Integer.compare(one.size(), other.size());
        }
        for (int place = 0; place < one.size(); place++) {
            int a = one.get(place) < 0 ? Integer.MAX_VALUE : one.get(place);
            int b = other.get(place) < 0 ? Integer.MAX_VALUE : other.get(place);
            if (a != b) {
                return Integer.compare(a, b);
            }
        }
        return 0;
    }

    // ---- menus

    private Tree optimal(int b) {
        return optimal(b, 0, names.size(), new HashMap<>());
    }

    private Tree optimal(int b, int first, int size, Map<Integer, Tree> known) {
        int key = first * 100 + size;
        if (!known.containsKey(key)) {
            List<Tree> all = new ArrayList<>();
            if (size == 1) {
                all.add(new Tree(List.of(), first, 1));
            } else {
                divide(b, first, size, first, new ArrayList<>(), all, known);
            }
            known.put(key, Collections.min(all, this::compareTrees));
        }
        return known.get(key);
    }

    // All menus for these names whose parts are optimal.
    private void divide(int b, int first, int size, int from, List<Tree> parts, List<Tree> all, Map<Integer, Tree> known) {
        int left = first + size - from;
        if (left == 0) {
            if (parts.size() >= 2) {
                all.add(new Tree(List.copyOf(parts), first, size));
            }
            return;
        }
        if (parts.size() == b) {
            return;
        }
        for (int next = 1; next <= left && next < size; next++) {
            parts.add(optimal(b, from, next, known));
            divide(b, first, size, from + next, parts, all, known);
            parts.remove(parts.size() - 1);
        }
    }

    private int compareTrees(Tree one, Tree other) {
        if (cost(one) != cost(other)) {
            return Integer.compare(cost(one), cost(other));
        }
        if (one.parts().size() != other.parts().size()) {
            return Integer.compare(one.parts().size(), other.parts().size());
        }
        for (int part = 0; part < one.parts().size(); part++) {
            int sizes = Integer.compare(one.parts().get(part).size(), other.parts().get(part).size());
            if (sizes != 0) {
                return sizes;
            }
        }
        return 0;
    }

    private int cost(Tree tree) {
        int cost = 0;
        List<Integer> frequencies = new ArrayList<>(names.values());
        for (Tree part : tree.parts()) {
            cost += cost(part);
            for (int name = part.first(); name < part.first() + part.size(); name++) {
                cost += frequencies.get(name);
            }
        }
        return cost;
    }

    private static List<Integer> path(Tree tree, int name) {
        for (int part = 0; part < tree.parts().size(); part++) {
            Tree within = tree.parts().get(part);
            if (name >= within.first() && name < within.first() + within.size()) {
                List<Integer> path = new ArrayList<>(List.of(part + 1));
                path.addAll(path(within, name));
                return path;
            }
        }
        return List.of();
    }

    private int build(int b) {
        if (b < 2 || b > 4) {
            return OUTSIDE;
        }
        if (names.isEmpty()) {
            return STATE;
        }
        menu = optimal(b);
        width = b;
        made++;
        return cost(menu);
    }

    private int tend(int slack) {
        if (menu == null) {
            return STATE;
        }
        if (slack < 0 || slack > 100) {
            return OUTSIDE;
        }
        Tree better = optimal(width);
        if (!(100 * (cost(menu) - cost(better)) > slack * cost(better))) {
            return NONE;
        }
        int different = 0;
        for (int name = 0; name < names.size(); name++) {
            different += path(menu, name).equals(path(better, name)) ? 0 : 1;
        }
        menu = better;
        made++;
        return different;
    }

    private int leads(int parts) {
        if (menu == null) {
            return STATE;
        }
        if (parts < 0) {
            return UNKNOWN;
        }
        Tree here = menu;
        for (char digit : (parts == 0 ? "" : Integer.toString(parts)).toCharArray()) {
            int part = digit - '1';
            if (part < 0 || part >= here.parts().size()) {
                return UNKNOWN;
            }
            here = here.parts().get(part);
        }
        return here.parts().isEmpty() ? here.first() : NONE;
    }

    private static int depth(Tree tree) {
        int depth = 0;
        for (Tree part : tree.parts()) {
            depth = Math.max(depth, 1 + depth(part));
        }
        return depth;
    }

    private static int inner(Tree tree) {
        int inner = tree.parts().isEmpty() ? 0 : 1;
        for (Tree part : tree.parts()) {
            inner += inner(part);
        }
        return inner;
    }

    private int menu(int what) {
        if (menu == null) {
            return STATE;
        }
        switch (what) {
            case 0: return width;
            case 1: return cost(menu);
            case 2: return cost(optimal(width));
            case 3: return depth(menu);
            case 4: return inner(menu);
            case 5: return menu.parts().size();
            case 6: return made;
            default: return OUTSIDE;
        }
    }

    // ---- what is told of all

    private int count(int what) {
        int[] counts = {names.size(), text.length(), input.length(), lists, keypads, removed};
        return what < 0 || what > 5 ? OUTSIDE : counts[what];
    }

    long digest() {
        List<Integer> all = new ArrayList<>();
        for (char letter = 'a'; letter <= 'z'; letter++) {
            all.add(digitOf(letter) - '0');
        }
        for (int name = 0; name < names.size(); name++) {
            word(name).chars().forEach(all::add);
            for (int what = 0; what <= 7; what++) {
                all.add(name(name, what));
            }
            all.addAll(digitsOf(code(word(name))));
        }
        for (int what = 0; what <= 6; what++) {
            all.add(about(what));
        }
        all.addAll(digitsOf(input));
        all.addAll(choice(input));
        for (int what = 0; what <= 3; what++) {
            all.add(spelling(what));
        }
        all.addAll(bestReading());
        for (int what = 0; what <= 6 && menu != null; what++) {
            all.add(menu(what));
        }
        for (int name = 0; name < names.size() && menu != null; name++) {
            all.addAll(path(menu, name));
        }
        text.chars().forEach(all::add);
        for (int what = 0; what <= 5; what++) {
            all.add(count(what));
        }
        long h = 1571;
        for (int v : all) {
            h = 31 * h + v;
        }
        return h;
    }
}
