import java.util.ArrayList;
import java.util.List;

/**
 * A state of an object that can be made anew as often as a test needs it: no object gets more calls than the document
 * allows, and a call whose traces are looked for always meets the same state.
 */
final class Scene {
    private static final int MOST_CALLS = 512;
    private static final List<String> CHANGING =
        List.of("letter", "blank", "names", "dial", "drop", "use", "press", "back", "wipe", "build", "tend");
    private static final List<Call> QUESTIONS = questions();
    private static final List<Call> SEQUEL = steps("letter 58", "letter 49", "fault", "names", "dial", "blank", "back",
        "press 2", "press 7", "build 3", "use 0 7", "use 1 98", "tend 0", "menu 6", "drop 1", "write k:3;zz:4", "names",
        "build 2", "digest", "write abcdefghijklmnopqrs,t,u,v,w,x,y,z", "dial", "wipe", "type 2", "spelling 0", "choice 0",
        "digest");

    final String name;
    private final List<Call> calls;
    private List<Long> told;

    private Scene(String name, List<Call> calls) {
        this.name = name;
        this.calls = calls;
    }

    /** The steps are calls, "write TEXT" or "type DIGITS". */
    static Scene of(String name, String... steps) {
        return new Scene(name, steps(steps));
    }

    Scene and(String newName, String... more) {
        List<Call> all = new ArrayList<>(calls);
        all.addAll(steps(more));
        return new Scene(newName, all);
    }

    static List<Call> steps(String... steps) {
        List<Call> calls = new ArrayList<>();
        for (String step : steps) {
            if (step.startsWith("write ")) {
                step.substring(6).chars().forEach(code -> calls.add(new Call("letter", code, 0)));
            } else if (step.startsWith("type ")) {
                step.substring(5).chars().forEach(digit -> calls.add(new Call("press", digit - '0', 0)));
            } else {
                calls.add(Call.of(step));
            }
        }
        return calls;
    }

    DialMenus make() {
        DialMenus x = new DialMenus();
        for (Call call : calls) {
            if (Call.isError(call.on(x)) && CHANGING.contains(call.method())) {
                throw new IllegalStateException("the scene '" + name + "' cannot be made: " + call);
            }
        }
        return x;
    }

    /** The codes of the text, by what was written and how the text was emptied. */
    List<Integer> text() {
        List<Integer> text = new ArrayList<>();
        for (Call call : calls) {
            if (call.method().equals("letter")) {
                text.add(call.a());
            } else if (List.of("blank", "names", "dial").contains(call.method())) {
                text.clear();
            }
        }
        return text;
    }

    /** All that the object tells in this state, and what it answers when it is used further. */
    List<Long> told() {
        if (told == null) {
            told = toldAfter();
        }
        return told;
    }

    /** The same after these calls. */
    List<Long> toldAfter(Call... extra) {
        List<Long> answers = new ArrayList<>();
        int share = MOST_CALLS - calls.size() - extra.length;
        for (int from = 0; from < QUESTIONS.size(); from += share) {
            ask(QUESTIONS.subList(from, Math.min(from + share, QUESTIONS.size())), answers, extra);
        }
        ask(SEQUEL.subList(0, Math.min(share, SEQUEL.size())), answers, extra);
        return answers;
    }

    /** What the object answers to each question if that is the first one in this state. */
    List<Long> toldFirst() {
        List<Long> answers = new ArrayList<>();
        for (Call question : QUESTIONS) {
            answers.add(question.on(make()));
        }
        return answers;
    }

    private void ask(List<Call> questions, List<Long> answers, Call... extra) {
        DialMenus x = make();
        for (Call call : extra) {
            call.on(x);
        }
        for (Call question : questions) {
            answers.add(question.on(x));
        }
    }

    /** The first question that is answered otherwise, or an empty text. */
    static String difference(List<Long> before, List<Long> after) {
        return difference(before, after, false);
    }

    /** The same but for what counts the calls of the past. */
    static String differenceButCounts(List<Long> before, List<Long> after) {
        return difference(before, after, true);
    }

    private static String difference(List<Long> before, List<Long> after, boolean butCounts) {
        for (int at = 0; at < before.size() && at < after.size(); at++) {
            Call call = at < QUESTIONS.size() ? QUESTIONS.get(at) : SEQUEL.get(at - QUESTIONS.size());
            if (!before.get(at).equals(after.get(at)) && !(butCounts && isCount(call))) {
                return call + " answers " + after.get(at) + " and not " + before.get(at);
            }
        }
        return "";
    }

    private static boolean isCount(Call call) {
        boolean isOfMenu = call.method().equals("menu") && call.a() == 6;
        return isOfMenu || List.of("count", "digest").contains(call.method());
    }

    private static List<Call> questions() {
        List<Call> all = new ArrayList<>();
        all.add(new Call("digest", 0, 0));
        all.add(new Call("fault", 0, 0));
        for (int name = -1; name <= 14; name++) {
            range(all, "name", name, 8);
            range(all, "sign", name, 8);
            range(all, "digit", name, 8);
            range(all, "path", name, 13);
        }
        for (int number = -1; number <= 14; number++) {
            for (String method : List.of("about", "typed", "choice", "spelling", "piece", "menu", "count")) {
                all.add(new Call(method, number, 0));
            }
        }
        for (int code = 'a' - 1; code <= 'z' + 1; code++) {
            all.add(new Call("laid", code, 0));
        }
        for (int parts = -1; parts <= 45; parts++) {
            all.add(new Call("leads", parts, 0));
            all.add(new Call("leads", 100 + parts, 0));
            all.add(new Call("leads", 2200 + parts, 0));
        }
        all.add(new Call("digest", 0, 0));
        return all;
    }

    private static void range(List<Call> all, String method, int name, int last) {
        for (int b = -1; b <= last; b++) {
            all.add(new Call(method, name, b));
        }
    }

    @Override
    public String toString() {
        return name;
    }
}
