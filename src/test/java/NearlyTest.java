import java.util.ArrayList;
import java.util.HashSet;
import java.util.List;
import java.util.Set;

/**
 * Texts that are nearly a list of names or a keypad: where fault() finds "the first character with which, given those before
 * it, the text cannot be a list of names or the beginning of one", and that names() and dial() then return STATE.
 */
public final class NearlyTest {
    private static final int STATE = Edge.STATE;
    private static final String LETTERS = "abcdefghijklmnopqrstuvwxyz";
    // A name, a name with the longest length, both kinds of frequencies, and nearly the same names again.
    private static final String LIST = "ab:10;cdefghij:99;a:1;b:9;abc:7";
    private static final Edge edge = new Edge();

    public static void main(String[] args) {
        noNameBeforeTheColon();
        nameOfNineLetters();
        nameOfOtherSigns();
        sameNameAgain();
        sameNameOfEightLetters();
        namesThatAreNotTheSame();
        frequencyZero();
        frequencyWithLeadingZero();
        frequencyAbove99();
        noFrequency();
        frequencyOfOtherSigns();
        semicolonAtTheEnd();
        semicolonWithoutItem();
        endsTooEarly();
        spaces();
        firstFaultCounts();
        namesThatAreThereDoNotMatter();
        everySignInEveryPlace();
        everyShortText();
        everyListWithOneFault();
        everyBeginningOfAList();
        keypadThatEndsTooEarly();
        keypadWithTooFewGroups();
        keypadWithTooManyGroups();
        keypadWithAnEmptyGroup();
        keypadOutOfOrder();
        keypadWithOtherSigns();
        everyKeypadWithOneFault();
        largestGroups();
        listIsNoKeypad();
        edge.end();
    }

    // ---- lists of names

    private static Scene text(String text) {
        return Scene.of("'" + text + "'", "write " + text);
    }

    // The first fault is here: so it is for all that goes on after it, and no beginning before it has one.
    private static void fault(String text, int want) {
        edge.still(text(text), "fault", want);
        edge.still(text(text), "names", STATE);
        edge.still(text(text), "dial", STATE);
        for (int length = 0; length <= text.length(); length++) {
            edge.due(text(text.substring(0, length)), "fault", Math.min(length, want));
        }
        for (String more : new String[] {"a", "1", ":", ";", ":1", ";zz:1"}) {
            if (want < text.length() && text.length() + more.length() <= 50) {
                edge.due(text(text + more), "fault", want);
                edge.due(text(text + more), "names", STATE);
            }
        }
    }

    // A text that is no list, but has no fault: it only ends too early.
    private static void early(String text) {
        fault(text, text.length());
    }

    private static void list(String text, int names) {
        edge.still(text(text), "fault", text.length());
        edge.still(text(text), "dial", STATE);
        edge.due(text(text), "names", names);
        edge.due(text(text).and("read", "names"), "count 1", 0);
    }

    // "an item is a name, a colon, and the frequency"; "A name has 1 to 8 letters"
    private static void noNameBeforeTheColon() {
        fault(":1", 0);
        fault(":", 0);
        fault("a:1;:1", 4);
        fault("a:1;b:2;:", 8);
        fault("5", 0);
    }

    private static void nameOfNineLetters() {
        fault("abcdefghi:1", 8);
        fault("abcdefghi", 8);
        fault("a:1;abcdefghi:1", 12);
        fault("zzzzzzzzz", 8);
        fault("aaaaaaaa:1;aaaaaaaaa:1", 19);
        list("abcdefgh:1", 1);
        list("a:1;zzzzzzzz:1", 2);
    }

    private static void nameOfOtherSigns() {
        fault("A:1", 0);
        fault("aB:1", 1);
        fault("a`:1", 1);
        fault("a{:1", 1);
        fault("`", 0);
        fault("{", 0);
        fault("a1:1", 1);
        fault("a,b:1", 1);
        fault("a;b:1", 1);
        fault("a:1;B:1", 4);
        fault("a:1;bC:1", 5);
    }

    // "if a name occurs for the second time, this is the colon behind it"
    private static void sameNameAgain() {
        fault("a:1;a:1", 5);
        fault("a:1;a:2", 5);
        fault("a:1;a:", 5);
        fault("a:1;b:1;a:1", 9);
        fault("a:1;b:1;b:1", 9);
        fault("ab:10;ab:10", 8);
        fault("a:1;b:2;c:3;d:4;e:5;f:6;g:7;h:8;i:9;j:1;k:1;a:1", 45);
        fault("a:1;b:2;c:3;d:4;e:5;f:6;g:7;h:8;i:9;j:1;k:1;k:1", 45);
        // Until the colon it may become another name.
        early("a:1;a");
        early("ab:1;ab");
    }

    // Its letters are told by the same words: "this is the colon behind it"
    private static void sameNameOfEightLetters() {
        fault("abcdefgh:1;abcdefgh:1", 19);
        fault("abcdefgh:1;abcdefgh:", 19);
        early("abcdefgh:1;abcdefgh");
        fault("abcdefgh:1;abcdefghi:1", 19);
    }

    private static void namesThatAreNotTheSame() {
        list("a:1;aa:1;aaa:1", 3);
        list("aaa:1;aa:1;a:1", 3);
        list("ab:1;ba:1;a:1;b:1", 4);
        list("abcdefgh:1;abcdefgg:1;abcdefg:1", 3);
        list("z:1;y:1;x:1", 3);
    }

    // "and a frequency from 1 to 99"
    private static void frequencyZero() {
        fault("a:0", 2);
        fault("a:0;b:1", 2);
        fault("a:00", 2);
        fault("a:1;b:0", 6);
        list("a:10", 1);
        list("a:90;b:20", 2);
    }

    // "the frequency without leading zeros"
    private static void frequencyWithLeadingZero() {
        fault("a:01", 2);
        fault("a:09;b:1", 2);
        fault("a:1;b:01", 6);
    }

    private static void frequencyAbove99() {
        fault("a:100", 4);
        fault("a:990", 4);
        fault("a:999", 4);
        fault("a:123;b:1", 4);
        fault("a:1;b:100", 8);
        fault("a:4294967297", 4);
        list("a:99", 1);
        list("a:98;b:99", 2);
    }

    private static void noFrequency() {
        fault("a:;b:1", 2);
        fault("a::1", 2);
        fault("a:1;b:;", 6);
        early("a:");
        early("a:1;b:");
    }

    private static void frequencyOfOtherSigns() {
        fault("a:b", 2);
        fault("a:-1", 2);
        fault("a:+1", 2);
        fault("a:1a", 3);
        fault("a:1:2", 3);
        fault("a:1.5", 3);
        fault("a:1/", 3);
        fault("a:1,b:1", 3);
        fault("a:11:", 4);
        fault("a:11b:1", 4);
        fault("a:1<", 3);
        fault("a:/", 2);
    }

    // "one or more items, separated by semicolons": after the last one there is none, but there could be another item
    private static void semicolonAtTheEnd() {
        early("a:1;");
        early("a:99;");
        early("a:1;b:2;");
        fault("a:1;;", 4);
        fault("a:1;;b:1", 4);
        fault("a:1;b:2;;", 8);
    }

    private static void semicolonWithoutItem() {
        fault(";", 0);
        fault(";a:1", 0);
        fault("a;", 1);
        fault("abcdefgh;", 8);
    }

    // "the length of the text if there is no such character (also if the text only ends too early)"
    private static void endsTooEarly() {
        early("a");
        early("abcdefgh");
        early("a:");
        early("a:1;");
        early("a:1;b");
        early("a:1;abcdefgh");
        early("a:1;b:");
        early(LETTERS.substring(0, 8) + ":99;" + LETTERS.substring(8, 16) + ":");
    }

    // "There are no spaces in these texts."
    private static void spaces() {
        fault(" ", 0);
        fault(" a:1", 0);
        fault("a :1", 1);
        fault("a: 1", 2);
        fault("a:1 ", 3);
        fault("a:11 ", 4);
        fault("a:1; b:1", 4);
        fault("a:1 ;b:1", 3);
        fault("abcdefgh ", 8);
    }

    private static void firstFaultCounts() {
        fault("a:0;a:100;abcdefghi", 2);
        fault("a:1;a:0;;", 5);
        fault("a:100;:", 4);
        fault("A", 0);
    }

    // "names that there are already do not matter"
    private static void namesThatAreThereDoNotMatter() {
        Scene known = Scene.of("a and b are there", "write a:1;b:2", "names", "write b:1;c:1");
        edge.still(known, "fault", 7);
        edge.still(known, "names", STATE);
        Scene full = Scenes.FULL_NAMES.and("fourteen are there", "blank", "write " + Scenes.TWELVE);
        edge.still(full, "fault", 47);
        edge.still(full, "names", STATE);
        Scene twice = Scene.of("a is there and written twice", "write a:1", "names", "write a:1;a:1");
        edge.still(twice, "fault", 5);
    }

    // What may follow each kind of beginning, for all 95 characters.
    private static void everySignInEveryPlace() {
        follows("", LETTERS);
        follows("a", LETTERS + ":");
        follows("abcdefg", LETTERS + ":");
        follows("abcdefgh", ":");
        follows("a:", "123456789");
        follows("a:1", "0123456789;");
        follows("a:9", "0123456789;");
        follows("a:10", ";");
        follows("a:99", ";");
        follows("a:1;", LETTERS);
        follows("a:1;a", LETTERS);
        follows("a:1;b", LETTERS + ":");
        follows("a:1;aa", LETTERS + ":");
        follows("a:1;abcdefgh", ":");
        follows("abcdefgh:1;abcdefg", LETTERS + ":");
        follows("abcdefgh:1;abcdefgh", "");
        follows("a:1;b:", "123456789");
        follows("a:1;b:1", "0123456789;");
        follows("a:1;b:11", ";");
        follows("a:1;b:11;", LETTERS);
    }

    private static void follows(String start, String signs) {
        for (char sign = 32; sign <= 126; sign++) {
            int want = start.length() + (signs.indexOf(sign) >= 0 ? 1 : 0);
            edge.due(text(start + sign), "fault", want);
        }
    }

    // The document's words themselves, for all texts of at most five of these signs: a text has no fault as long as it is
    // the beginning of some list. Three signs more are enough to end one that can be ended.
    private static void everyShortText() {
        String signs = "ab:;019";
        Set<String> lists = new HashSet<>();
        collectLists("", new HashSet<>(), lists);
        Set<String> beginnings = new HashSet<>();
        for (String list : lists) {
            for (int length = 0; length <= list.length(); length++) {
                beginnings.add(list.substring(0, length));
            }
        }
        tryTexts("", signs, lists, beginnings);
    }

    private static void collectLists(String start, Set<String> names, Set<String> lists) {
        for (String name : words("", 5)) {
            for (String frequency : new String[] {"1", "9", "10", "11", "19", "90", "91", "99"}) {
                String list = start + name + ":" + frequency;
                if (list.length() <= 8 && names.add(name)) {
                    lists.add(list);
                    collectLists(list + ";", names, lists);
                    names.remove(name);
                }
            }
        }
    }

    private static List<String> words(String start, int letters) {
        List<String> words = new ArrayList<>();
        for (char letter = 'a'; letter <= 'b' && letters > 0; letter++) {
            words.add(start + letter);
            words.addAll(words(start + letter, letters - 1));
        }
        return words;
    }

    private static void tryTexts(String text, String signs, Set<String> lists, Set<String> beginnings) {
        int want = 0;
        while (want < text.length() && beginnings.contains(text.substring(0, want + 1))) {
            want++;
        }
        DialMenus x = new DialMenus();
        Check.write(x, text);
        edge.due("fault of '" + text + "'", x.fault(), want);
        int added = x.names();
        edge.holds("names of '" + text + "' answered " + added, lists.contains(text) ? added > 0 : added == STATE);
        edge.due("characters left of '" + text + "'", x.count(1), added > 0 ? 0 : text.length());
        for (int at = 0; at < signs.length() && text.length() < 5; at++) {
            tryTexts(text + signs.charAt(at), signs, lists, beginnings);
        }
    }

    // Each text that differs from a list in one place, held against the model.
    private static void everyListWithOneFault() {
        for (String near : nearTexts(LIST)) {
            DialMenus x = new DialMenus();
            Model model = new Model();
            for (char sign : near.toCharArray()) {
                x.letter(sign);
                model.call("letter", sign, 0);
            }
            edge.due("fault of '" + near + "'", x.fault(), model.call("fault", 0, 0));
            edge.due("dial of '" + near + "'", x.dial(), STATE);
            edge.due("names of '" + near + "'", x.names(), model.call("names", 0, 0));
            edge.due("digest after '" + near + "'", x.digest(), model.digest());
        }
    }

    private static List<String> nearTexts(String text) {
        List<String> near = new ArrayList<>();
        for (int at = 0; at <= text.length(); at++) {
            for (char sign = 32; sign <= 126; sign++) {
                near.add(text.substring(0, at) + sign + text.substring(at));
                if (at < text.length()) {
                    near.add(text.substring(0, at) + sign + text.substring(at + 1));
                }
            }
            if (at < text.length()) {
                near.add(text.substring(0, at) + text.substring(at + 1));
            }
        }
        return near;
    }

    // A beginning is a list exactly where a frequency stands at its end.
    private static void everyBeginningOfAList() {
        for (int length = 0; length <= LIST.length(); length++) {
            String start = LIST.substring(0, length);
            edge.due(text(start), "fault", length);
            boolean isList = !start.isEmpty() && Character.isDigit(start.charAt(length - 1));
            edge.due(text(start), "names", isList ? start.split(";").length : STATE);
            if (!isList) {
                DialMenus x = text(start).make();
                edge.due("names of '" + start + "'", x.names(), STATE);
                Check.write(x, LIST.substring(length));
                edge.due("names of the whole after '" + start + "'", x.names(), 5);
            }
        }
    }

    // ---- keypads

    private static void noKeypad(String text) {
        edge.still(text(text), "dial", STATE);
        edge.still(Scenes.LONG.and("'" + text + "' with names", "blank", "write " + text), "dial", STATE);
    }

    // "A keypad is written as the 26 letters in their order with a comma between two groups."
    private static void keypadThatEndsTooEarly() {
        for (int length = 0; length < Scenes.PLAIN.length(); length++) {
            noKeypad(Scenes.PLAIN.substring(0, length));
            noKeypad(Scenes.WIDE.substring(0, length));
            DialMenus x = text(Scenes.WIDE.substring(0, length)).make();
            edge.due("dial after " + length, x.dial(), STATE);
            Check.write(x, Scenes.WIDE.substring(length));
            edge.due("dial of the whole after " + length, x.dial(), 19);
        }
    }

    // "divided into eight groups"
    private static void keypadWithTooFewGroups() {
        noKeypad(LETTERS);
        noKeypad("abc,defghijklmnopqrstuvwxyz");
        noKeypad("abc,def,ghi,jkl,mno,pqrs,tuvwxyz");
        noKeypad("a,b,c,d,e,f,ghijklmnopqrstuvwxyz");
    }

    private static void keypadWithTooManyGroups() {
        noKeypad("abc,def,ghi,jkl,mno,pqrs,tuv,wxy,z");
        noKeypad("a,b,c,d,e,f,g,h,ijklmnopqrstuvwxyz");
        noKeypad("a,b,c,d,e,f,g,h,i,j,k,l,m,n,o,p,q,r,s,t,u,v,w,x,y");
    }

    // "of one or more letters"
    private static void keypadWithAnEmptyGroup() {
        noKeypad(",abc,def,ghi,jkl,mno,pqrstuv,wxyz");
        noKeypad("abc,,def,ghi,jkl,mno,pqrstuv,wxyz");
        noKeypad("abc,def,ghi,jkl,mno,pqrstuv,,wxyz");
        noKeypad("abc,def,ghi,jkl,mno,pqrs,tuvwxyz,");
        noKeypad("," + Scenes.PLAIN);
        noKeypad(Scenes.PLAIN + ",");
        noKeypad("abc,,def,ghi,jkl,mno,pqrs,tuv,wxyz");
        noKeypad(LETTERS + ",,,,,,,");
        noKeypad(",,,,,,," + LETTERS);
    }

    // "The letters a to z, in this order"
    private static void keypadOutOfOrder() {
        noKeypad("bac,def,ghi,jkl,mno,pqrs,tuv,wxyz");
        noKeypad("abc,def,ghi,jkl,mno,pqrs,tuv,wxzy");
        noKeypad("abd,cef,ghi,jkl,mno,pqrs,tuv,wxyz");
        noKeypad("def,abc,ghi,jkl,mno,pqrs,tuv,wxyz");
        noKeypad("bcd,efg,hij,klm,nop,qrst,uvw,xyza");
        noKeypad("aabc,def,ghi,jkl,mno,pqrs,tuv,wxyz");
        noKeypad("abc,def,ghi,jkl,mno,pqrs,tuv,wxyzz");
        noKeypad("abc,def,ghi,jkl,mno,prs,tuv,wxyz");
    }

    private static void keypadWithOtherSigns() {
        noKeypad(Scenes.PLAIN.toUpperCase());
        noKeypad(Scenes.PLAIN.replace(',', ';'));
        noKeypad(Scenes.PLAIN.replace(",", ", "));
        noKeypad(Scenes.PLAIN.replace(',', ' '));
        noKeypad(" " + Scenes.PLAIN);
        noKeypad(Scenes.PLAIN + " ");
        noKeypad(Scenes.PLAIN + "{");
        noKeypad("`" + Scenes.PLAIN);
        noKeypad(Scenes.PLAIN + "a");
    }

    private static void everyKeypadWithOneFault() {
        for (String whole : new String[] {Scenes.PLAIN, Scenes.WIDE}) {
            for (String near : nearTexts(whole)) {
                DialMenus x = new DialMenus();
                Model model = new Model();
                for (char sign : near.toCharArray()) {
                    x.letter(sign);
                    model.call("letter", sign, 0);
                }
                edge.due("dial of '" + near + "'", x.dial(), model.call("dial", 0, 0));
                edge.due("digest after '" + near + "'", x.digest(), model.digest());
            }
        }
    }

    // dial: "Returns the number of letters in the largest group", from 4 to 19, wherever it is
    private static void largestGroups() {
        for (int digit = 2; digit <= 9; digit++) {
            StringBuilder keypad = new StringBuilder();
            int next = 0;
            for (int group = 2; group <= 9; group++) {
                int size = group == digit ? 19 : 1;
                keypad.append(group > 2 ? "," : "").append(LETTERS, next, next + size);
                next += size;
            }
            DialMenus x = text(keypad.toString()).make();
            edge.due("largest group of " + keypad, x.dial(), 19);
            edge.due("first letter of the largest group", x.laid('a' + digit - 2), digit);
            edge.due("last letter of the largest group", x.laid('a' + digit - 2 + 18), digit);
            edge.due("a", x.laid('a'), 2);
            edge.due("z", x.laid('z'), 9);
        }
        edge.due(text(Scenes.PLAIN), "dial", 4);
        edge.due(text("abcd,efgh,ijk,lmn,opq,rst,uvw,xyz"), "dial", 4);
        edge.due(text("abcde,fgh,ijk,lmn,opq,rst,uvw,xyz"), "dial", 5);
        edge.due(text("ab,cd,efg,hij,klm,nop,qrs,tuvwxyz"), "dial", 7);
    }

    private static void listIsNoKeypad() {
        noKeypad("a:1");
        noKeypad(LIST);
        edge.still(text(Scenes.PLAIN), "names", STATE);
        edge.still(text(Scenes.PLAIN), "fault", 3);
        edge.still(text(Scenes.WIDE), "fault", 8);
    }
}
