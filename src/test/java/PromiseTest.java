/** One part for each promise of the document, with answers found by hand. */
public final class PromiseTest {
    private static final int NONE = -1, UNKNOWN = -101, OUTSIDE = -102, STATE = -103, FULL = -104;
    private static final String PLAIN = "abc,def,ghi,jkl,mno,pqrs,tuv,wxyz";
    private static final String TWELVE = "a:1;b:1;c:1;d:1;e:1;f:1;g:1;h:1;i:1;j:1;k:1;l:1";
    private static final int[] WRONG = {
        Integer.MIN_VALUE, -1000, -2, -1, 127, 1000, Integer.MAX_VALUE - 1, Integer.MAX_VALUE
    };
    private static final Check check = new Check();

    public static void main(String[] args) {
        promise1NewObject();
        promise2Letter();
        promise3Blank();
        promise4Fault();
        promise5Names();
        promise6Dial();
        promise7Drop();
        promise8Use();
        promise9Name();
        promise9Presses();
        promise9Paths();
        promise10Sign();
        promise11Digit();
        promise12Laid();
        promise13About();
        promise14Press();
        promise15Back();
        promise16Wipe();
        promise17Typed();
        promise18Choice();
        promise19Spelling();
        promise20Piece();
        promise21Build();
        promise21Ties();
        promise22Tend();
        promise23Path();
        promise24Leads();
        promise25Menu();
        promise26Count();
        promise27Digest();
        check.end();
    }

    private static void due(String call, long got, long want) {
        check.due(call, got, want);
    }

    private static void promise1NewObject() {
        DialMenus x = new DialMenus();
        for (int what = 0; what <= 5; what++) {
            due("1 count " + what, x.count(what), 0);
        }
        String digits = "22233344455566677778889999";
        for (int at = 0; at < 26; at++) {
            due("1 laid " + at, x.laid('a' + at), digits.charAt(at) - '0');
        }
        due("1 menu", x.menu(0), STATE);
        due("1 back", x.back(), STATE);
        due("1 blank", x.blank(), 0);
        due("1 constants", DialMenus.NONE, NONE);
        due("1 constants", DialMenus.UNKNOWN, UNKNOWN);
        due("1 constants", DialMenus.OUTSIDE, OUTSIDE);
        due("1 constants", DialMenus.STATE, STATE);
        due("1 constants", DialMenus.FULL, FULL);
    }

    private static void promise2Letter() {
        DialMenus x = new DialMenus();
        due("2 low", x.letter(31), OUTSIDE);
        due("2 high", x.letter(127), OUTSIDE);
        for (int wrong : WRONG) {
            due("2 letter " + wrong, x.letter(wrong), OUTSIDE);
        }
        due("2 first", x.letter(32), 1);
        due("2 last", x.letter(126), 2);
        for (int length = 3; length <= 50; length++) {
            due("2 length", x.letter('a'), length);
        }
        due("2 full", x.letter('a'), FULL);
        due("2 range before room", x.letter(127), OUTSIDE);
        due("2 room kept", x.count(1), 50);
    }

    private static void promise3Blank() {
        DialMenus x = new DialMenus();
        due("3 empty", x.blank(), 0);
        Check.write(x, "abc");
        due("3 three", x.blank(), 3);
        due("3 again", x.blank(), 0);
        due("3 starts anew", x.letter('a'), 1);
    }

    private static void fault(String text, int want) {
        DialMenus x = new DialMenus();
        Check.write(x, text);
        due("4 fault of '" + text + "'", x.fault(), want);
        due("4 text stays", x.count(1), text.length());
    }

    private static void promise4Fault() {
        fault("", 0);
        fault("a", 1);
        fault("a:", 2);
        fault("a:1", 3);
        fault("a:1;", 4);
        fault("a:99;b:10", 9);
        fault(":", 0);
        fault(";", 0);
        fault("1", 0);
        fault("A:1", 0);
        fault(" a:1", 0);
        fault("a :1", 1);
        fault("a;", 1);
        fault("a1", 1);
        fault("a`", 1);
        fault("a{", 1);
        fault("abcdefgh", 8);
        fault("abcdefgh:1", 10);
        fault("abcdefghi:1", 8);
        fault("a:0", 2);
        fault("a:01", 2);
        fault("a:;", 2);
        fault("a::", 2);
        fault("a:b", 2);
        fault("a:10", 4);
        fault("a:100", 4);
        fault("a:990", 4);
        fault("a:1a", 3);
        fault("a:1:", 3);
        fault("a:1/", 3);
        fault("a:1,b:1", 3);
        fault("a:1;;", 4);
        fault("a:1;:", 4);
        fault("a:1;a", 5);
        fault("a:1;a:", 5);
        fault("a:1;a:0", 5);
        fault("a:1;ab:2", 8);
        fault("ab:1;a:2;b:3;ab:4", 15);
        fault("ab:1;a:2;abc:3;ab", 17);
        fault("abcdefgh:1;abcdefgh", 19);
        fault("abcdefgh:1;abcdefgh:", 19);
        fault("a:1;a:2 ", 5);
        fault(TWELVE + ";mn", 50);
        DialMenus x = Check.with("a:1");
        Check.write(x, "a:1");
        due("4 names that are there do not matter", x.fault(), 3);
    }

    private static void names(String text, int want) {
        DialMenus x = new DialMenus();
        due("5 names of '" + text + "'", Check.addNames(x, text), want);
        due("5 number after '" + text + "'", x.count(0), Math.max(want, 0));
        due("5 text after '" + text + "'", x.count(1), want < 0 ? text.length() : 0);
        due("5 lists after '" + text + "'", x.count(3), want < 0 ? 0 : 1);
    }

    private static void promise5Names() {
        names("", STATE);
        names("a", STATE);
        names("a:", STATE);
        names("a:1;", STATE);
        names("a:1;b", STATE);
        names("a:1;b:", STATE);
        names("a:0", STATE);
        names("a:100", STATE);
        names("a:1;a:2", STATE);
        names("a:1 ", STATE);
        names("a:1", 1);
        names("a:99;abcdefgh:1", 2);
        names(TWELVE, 12);
        namesInOrder();
        namesFull();
    }

    private static void namesInOrder() {
        DialMenus x = Check.with("b:3;ba:4;a:5;az:6");
        String[] words = {"a", "az", "b", "ba"};
        int[] frequencies = {5, 6, 3, 4};
        for (int name = 0; name < 4; name++) {
            check.holds("5 word " + name, Check.word(x, name).equals(words[name]));
            due("5 frequency " + name, x.name(name, 1), frequencies[name]);
        }
        due("5 menu", x.build(2) >= 0 ? 1 : 0, 1);
        due("5 known one", Check.addNames(x, "c:1;az:1"), STATE);
        due("5 menu stays on error", x.menu(0), 2);
        due("5 text stays on error", x.blank(), 8);
        due("5 more", Check.addNames(x, "aa:1;bb:1"), 2);
        due("5 menu is removed", x.menu(0), STATE);
        check.holds("5 renumbered", Check.word(x, 1).equals("aa") && Check.word(x, 2).equals("az")
            && Check.word(x, 5).equals("bb"));
    }

    private static void namesFull() {
        DialMenus x = Check.with(TWELVE);
        due("5 three more", Check.addNames(x, "m:1;n:1;o:1"), FULL);
        due("5 known before full", Check.addNames(x, "m:1;n:1;a:1"), STATE);
        due("5 not a list before full", Check.addNames(x, "m:1;n:1;o:"), STATE);
        due("5 nothing came", x.count(0), 12);
        due("5 two more", Check.addNames(x, "m:1;n:1"), 2);
        due("5 none more", Check.addNames(x, "o:1"), FULL);
        due("5 text stays", x.count(1), 3);
        due("5 drop", x.drop(0), 13);
        due("5 room again", x.names(), 1);
    }

    private static void dial(String text, int want) {
        DialMenus x = new DialMenus();
        due("6 dial '" + text + "'", Check.takeKeypad(x, text), want);
        due("6 text after '" + text + "'", x.count(1), want < 0 ? text.length() : 0);
        due("6 keypads after '" + text + "'", x.count(4), want < 0 ? 0 : 1);
    }

    private static void promise6Dial() {
        dial(PLAIN, 4);
        dial("a,b,c,d,e,f,g,hijklmnopqrstuvwxyz", 19);
        dial("abcdefghijklmnopqrs,t,u,v,w,x,y,z", 19);
        dial("abcd,efg,hij,klm,nop,qrs,tuv,wxyz", 4);
        dial("", STATE);
        dial("abcdefghijklmnopqrstuvwxyz", STATE);
        dial("abc,def,ghi,jkl,mno,pqrstuv,wxyz", STATE);
        dial("abc,def,ghi,jkl,mno,pqrs,tuv,w,xyz", STATE);
        dial("abc,def,ghi,jkl,mno,pqrs,tuvwxyz,", STATE);
        dial(",abc,def,ghi,jkl,mno,pqrstuv,wxyz", STATE);
        dial("abc,,def,ghi,jkl,mnopqrs,tuv,wxyz", STATE);
        dial("abc,def,ghi,jkl,mno,pqrs,tuv,wxy", STATE);
        dial("bac,def,ghi,jkl,mno,pqrs,tuv,wxyz", STATE);
        dial("abd,cef,ghi,jkl,mno,pqrs,tuv,wxyz", STATE);
        dial(PLAIN + " ", STATE);
        dial(PLAIN + ",", STATE);
        dial(PLAIN + "a", STATE);
        dial(PLAIN + "{", STATE);
        dial("ABC,def,ghi,jkl,mno,pqrs,tuv,wxyz", STATE);
        dial("abc;def;ghi;jkl;mno;pqrs;tuv;wxyz", STATE);
        DialMenus x = Check.with("ad:1;be:2");
        Check.type(x, "23");
        x.build(3);
        due("6 wrong keypad", Check.takeKeypad(x, "abcd,efg"), STATE);
        due("6 nothing changed", x.laid('d'), 3);
        due("6 codes changed", Check.takeKeypad(x, "a,b,c,d,e,f,g,hijklmnopqrstuvwxyz"), 19);
        due("6 code", x.digit(0, 1), 5);
        due("6 code", x.digit(1, 0), 3);
        due("6 input stays", x.count(2), 2);
        due("6 menu stays", x.menu(0), 3);
        due("6 later names too", Check.addNames(x, "h:1"), 1);
        due("6 code of later name", x.digit(2, 0), 9);
    }

    private static void promise7Drop() {
        DialMenus x = new DialMenus();
        due("7 none", x.drop(0), UNKNOWN);
        Check.addNames(x, "a:1;b:2;c:3");
        x.build(2);
        due("7 after the last", x.drop(3), UNKNOWN);
        for (int wrong : WRONG) {
            due("7 drop " + wrong, x.drop(wrong), UNKNOWN);
        }
        due("7 menu stays on error", x.menu(0), 2);
        due("7 nothing counted", x.count(5), 0);
        due("7 middle", x.drop(1), 2);
        due("7 menu is removed", x.menu(0), STATE);
        check.holds("7 renumbered", Check.word(x, 1).equals("c"));
        due("7 frequency", x.name(1, 1), 3);
        due("7 first", x.drop(0), 1);
        due("7 only", x.drop(0), 0);
        due("7 none left", x.drop(0), UNKNOWN);
        due("7 counted", x.count(5), 3);
        due("7 comes again", Check.addNames(x, "b:7"), 1);
    }

    private static void promise8Use() {
        DialMenus x = Check.with("a:1;b:2");
        x.build(2);
        due("8 unknown first", x.use(2, 100), UNKNOWN);
        due("8 unknown", x.use(-1, 5), UNKNOWN);
        due("8 low", x.use(0, 0), OUTSIDE);
        due("8 high", x.use(0, 100), OUTSIDE);
        for (int wrong : WRONG) {
            due("8 use " + wrong, x.use(0, wrong), OUTSIDE);
            due("8 name " + wrong, x.use(wrong, 1), UNKNOWN);
        }
        due("8 unchanged", x.name(0, 1), 1);
        due("8 sets", x.use(0, 99), 1);
        due("8 sets again", x.use(0, 1), 99);
        due("8 same", x.use(1, 2), 2);
        due("8 menu stays", x.menu(0), 2);
    }

    private static void properties(DialMenus x, int name, int... want) {
        for (int what = 0; what < want.length; what++) {
            due("9 name(" + name + ", " + what + ")", x.name(name, what), want[what]);
        }
    }

    private static void promise9Name() {
        DialMenus x = Check.with("anna:5;bob:9;can:2;cam:2");
        properties(x, 0, 4, 5, 0, 3, 2, 0, NONE, 1);
        properties(x, 1, 3, 9, 0, 3, 1, 0, NONE, 1);
        properties(x, 2, 3, 2, 1, NONE, 3, 0, NONE, 2);
        properties(x, 3, 3, 2, 1, NONE, 4, 1, NONE, 2);
        due("9 what -1", x.name(0, -1), OUTSIDE);
        due("9 what 8", x.name(0, 8), OUTSIDE);
        due("9 unknown first", x.name(4, 8), UNKNOWN);
        for (int wrong : WRONG) {
            due("9 what " + wrong, x.name(3, wrong), OUTSIDE);
            due("9 name " + wrong, x.name(wrong, 0), UNKNOWN);
        }
        DialMenus prefixes = Check.with("a:1;ab:2;abc:3;aca:3");
        properties(prefixes, 0, 1, 1, 0, NONE, 4, 3);
        properties(prefixes, 1, 2, 2, 0, NONE, 3, 2);
        properties(prefixes, 2, 3, 3, 1, NONE, 1, 0);
        properties(prefixes, 3, 3, 3, 1, NONE, 2, 1);
        DialMenus one = Check.with("solo:7");
        properties(one, 0, 4, 7, 0, 0, 1, 0, NONE, 0);
        Check.addNames(one, "mi:1");
        properties(one, 0, 2, 1, 0, 1, 2, 0, NONE, 1);
        properties(one, 1, 4, 7, 0, 1, 1, 0, NONE, 1);
        DialMenus last = Check.with("aaaaaaaa:1;aaaaaaad:1");
        due("9 distinguished by the last digit", last.name(0, 3), 8);
        DialMenus many = Check.with("ad:1;ae:1;af:1;be:1;a:1;adg:1");
        int[] twins = {0, 3, 0, 3, 3, 3};
        for (int name = 0; name < 6; name++) {
            due("9 several twins of " + name, many.name(name, 2), twins[name]);
        }
    }

    private static void promise9Presses() {
        // With no digit typed the seven heavier names stand before z; one digit is enough to be alone.
        DialMenus x = Check.with("a:9;b:8;c:7;d:6;e:5;f:4;g:3;z:1");
        due("9 presses of the first", x.name(0, 4), 1);
        due("9 presses of the second", x.name(1, 4), 2);
        due("9 presses of d", x.name(3, 4), 2);
        due("9 presses of g", x.name(6, 4), 2);
        due("9 presses of z", x.name(7, 4), 2);
        due("9 presses of f", x.name(5, 4), 4);
        x.use(7, 99);
        due("9 presses of z now", x.name(7, 4), 1);
        due("9 presses of a now", x.name(0, 4), 2);
        DialMenus twins = Check.with("a:1;b:1;c:1");
        due("9 equal frequencies", twins.name(2, 4), 3);
        due("9 equal frequencies", twins.name(2, 5), 2);
        twins.use(2, 2);
        due("9 heavier twin", twins.name(2, 5), 0);
        due("9 lighter twin", twins.name(0, 5), 1);
    }

    private static void promise9Paths() {
        DialMenus x = Check.with("a:1;b:1;c:1;d:1;e:1");
        due("9 no menu", x.name(0, 6), NONE);
        x.build(2);
        due("9 path of e", x.name(4, 6), 3);
        due("9 path of a", x.name(0, 6), 2);
        // 3, 1, 1 and 1, 3, 1 cost the same as 1, 1, 3: the last has the fewest names in the first part.
        due("9 width 3, a", x.name(0, 7), 1);
        due("9 width 3, b", x.name(1, 7), 1);
        due("9 width 3, c", x.name(2, 7), 2);
        x.use(4, 99);
        due("9 width 3 by the present frequencies", x.name(4, 7), 1);
        due("9 present path stays", x.name(4, 6), 3);
    }

    private static void promise10Sign() {
        DialMenus x = Check.with("az:1;q:2");
        due("10 a", x.sign(0, 0), 'a');
        due("10 z", x.sign(0, 1), 'z');
        due("10 q", x.sign(1, 0), 'q');
        due("10 past the end", x.sign(0, 2), UNKNOWN);
        due("10 past the end", x.sign(1, 1), UNKNOWN);
        due("10 no name", x.sign(2, 0), UNKNOWN);
        for (int wrong : WRONG) {
            due("10 place " + wrong, x.sign(0, wrong), UNKNOWN);
            due("10 name " + wrong, x.sign(wrong, 0), UNKNOWN);
        }
    }

    private static void promise11Digit() {
        DialMenus x = Check.with("aegjmptw:1;q:2");
        for (int place = 0; place < 8; place++) {
            due("11 place " + place, x.digit(0, place), 2 + place);
        }
        due("11 q", x.digit(1, 0), 7);
        due("11 past the end", x.digit(0, 8), UNKNOWN);
        due("11 past the end", x.digit(1, 1), UNKNOWN);
        due("11 no name", x.digit(2, 0), UNKNOWN);
        for (int wrong : WRONG) {
            due("11 place " + wrong, x.digit(0, wrong), UNKNOWN);
            due("11 name " + wrong, x.digit(wrong, 0), UNKNOWN);
        }
    }

    private static void promise12Laid() {
        DialMenus x = new DialMenus();
        due("12 a", x.laid(97), 2);
        due("12 z", x.laid(122), 9);
        due("12 below", x.laid(96), OUTSIDE);
        due("12 above", x.laid(123), OUTSIDE);
        due("12 capital", x.laid('A'), OUTSIDE);
        for (int wrong : WRONG) {
            due("12 laid " + wrong, x.laid(wrong), OUTSIDE);
        }
        Check.takeKeypad(x, "abcdefghijklmnopqrs,t,u,v,w,x,y,z");
        due("12 s", x.laid('s'), 2);
        due("12 t", x.laid('t'), 3);
    }

    private static void promise13About() {
        DialMenus x = new DialMenus();
        int[] empty = {0, 0, 0, 0, NONE, 0, 0};
        for (int what = 0; what <= 6; what++) {
            due("13 empty " + what, x.about(what), empty[what]);
        }
        Check.addNames(x, "anna:5;bob:9;can:2;cam:2");
        int[] four = {4, 18, 2, 3, 3, 33, 59};
        for (int what = 0; what <= 6; what++) {
            due("13 four " + what, x.about(what), four[what]);
        }
        due("13 what -1", x.about(-1), OUTSIDE);
        due("13 what 7", x.about(7), OUTSIDE);
        for (int wrong : WRONG) {
            due("13 what " + wrong, x.about(wrong), OUTSIDE);
        }
        due("13 one name", Check.with("a:1").about(4), 0);
        due("13 only twins", Check.with("a:1;b:1").about(4), NONE);
        due("13 codes of twins", Check.with("a:1;b:1;c:1;d:1").about(3), 2);
        due("13 names with twins", Check.with("a:1;b:1;c:1;d:1").about(2), 3);
    }

    private static void promise14Press() {
        DialMenus x = new DialMenus();
        due("14 low", x.press(1), OUTSIDE);
        due("14 high", x.press(10), OUTSIDE);
        for (int wrong : WRONG) {
            due("14 press " + wrong, x.press(wrong), OUTSIDE);
        }
        due("14 code is no digit", x.press('5'), OUTSIDE);
        for (int length = 1; length <= 10; length++) {
            due("14 length", x.press(length % 2 == 0 ? 2 : 9), length);
        }
        due("14 full", x.press(2), FULL);
        due("14 range before room", x.press(1), OUTSIDE);
        due("14 room kept", x.count(2), 10);
    }

    private static void promise15Back() {
        DialMenus x = new DialMenus();
        due("15 none", x.back(), STATE);
        Check.type(x, "29");
        due("15 two", x.back(), 1);
        due("15 the first is left", x.typed(0), 2);
        due("15 one", x.back(), 0);
        due("15 none again", x.back(), STATE);
        due("15 starts anew", x.press(3), 1);
    }

    private static void promise16Wipe() {
        DialMenus x = new DialMenus();
        due("16 none", x.wipe(), 0);
        Check.type(x, "2345678923");
        due("16 ten", x.wipe(), 10);
        due("16 again", x.wipe(), 0);
        due("16 nothing typed", x.typed(0), UNKNOWN);
    }

    private static void promise17Typed() {
        DialMenus x = new DialMenus();
        due("17 none", x.typed(0), UNKNOWN);
        Check.type(x, "2345678923");
        for (int place = 0; place < 10; place++) {
            due("17 place " + place, x.typed(place), "2345678923".charAt(place) - '0');
        }
        due("17 past the end", x.typed(10), UNKNOWN);
        for (int wrong : WRONG) {
            due("17 typed " + wrong, x.typed(wrong), UNKNOWN);
        }
        x.back();
        due("17 taken back", x.typed(9), UNKNOWN);
    }

    private static void choices(DialMenus x, String input, int... want) {
        Check.type(x, input);
        check.due("18 choice for " + input, Check.choices(x), want);
        due("18 past the end", x.choice(want.length), UNKNOWN);
        for (int wrong : WRONG) {
            due("18 choice " + wrong, x.choice(wrong), UNKNOWN);
        }
    }

    private static void promise18Choice() {
        choices(new DialMenus(), "");
        choices(new DialMenus(), "2");
        // a, anna, bob, cam, can
        DialMenus x = Check.with("anna:5;bob:9;can:2;cam:2;a:5");
        choices(x, "", 2, 0, 1, 3, 4);
        choices(x, "2", 2, 0, 1, 3, 4);
        choices(x, "22", 3, 4);
        choices(x, "226", 3, 4);
        choices(x, "2266");
        choices(x, "26", 2, 1);
        choices(x, "2662", 1);
        choices(x, "26622");
        choices(x, "3");
        x.use(4, 3);
        choices(x, "226", 4, 3);
        Check.takeKeypad(x, "a,b,c,d,e,f,g,hijklmnopqrstuvwxyz");
        choices(x, "2", 0, 1);
        choices(x, "4", 4, 3);
    }

    private static void spelled(DialMenus x, String input, int... want) {
        Check.type(x, input);
        for (int what = 0; what <= 3; what++) {
            due("19 spelling(" + what + ") of " + input, x.spelling(what), want[what]);
        }
    }

    private static void promise19Spelling() {
        DialMenus x = new DialMenus();
        spelled(x, "", 1, 0, 0, 1);
        spelled(x, "2", 1, 1, 1, 1);
        spelled(x, "2345678923", 1, 10, 10, 1);
        due("19 what -1", x.spelling(-1), OUTSIDE);
        due("19 what 4", x.spelling(4), OUTSIDE);
        for (int wrong : WRONG) {
            due("19 what " + wrong, x.spelling(wrong), OUTSIDE);
        }
        Check.addNames(x, "a:1;b:1;ad:1;da:1");
        spelled(x, "2", 3, 0, 1, 2);
        spelled(x, "23", 4, 0, 1, 1);
        spelled(x, "232", 15, 0, 2, 4);
        spelled(x, "3", 1, 1, 1, 1);
        spelled(x, "33", 1, 2, 2, 1);
        // abc, adg, d, gad: two readings have one digit only, adg 2 d and 2 d gad.
        DialMenus y = Check.with("abc:1;adg:1;gad:1;d:1");
        spelled(y, "234", 3, 0, 1, 1);
        spelled(y, "23423", 8, 1, 3, 2);
        manyReadings();
    }

    private static void manyReadings() {
        DialMenus x = Check.with(TWELVE);
        Check.addNames(x, "m:1;n:1");
        Check.takeKeypad(x, "abcdefghijklmnopqrs,t,u,v,w,x,y,z");
        Check.type(x, "2222222222");
        // 15 to the 10th is 576650390625, and 14 to the 10th 289254654976.
        due("19 modulo", x.spelling(0), 390625);
        due("19 modulo", x.spelling(3), 654976);
        due("19 no digit", x.spelling(1), 0);
        due("19 ten pieces", x.spelling(2), 10);
        x.back();
        x.back();
        x.back();
        x.back();
        x.back();
        due("19 just below a million", x.spelling(0), 759375);
        x.press(2);
        due("19 just over a million", x.spelling(0), 390625);
    }

    private static void pieces(DialMenus x, String input, int... want) {
        Check.type(x, input);
        check.due("20 pieces of " + input, Check.pieces(x), want);
        due("20 past the end", x.piece(want.length), UNKNOWN);
        for (int wrong : WRONG) {
            due("20 piece " + wrong, x.piece(wrong), UNKNOWN);
        }
    }

    private static void promise20Piece() {
        DialMenus x = new DialMenus();
        pieces(x, "");
        pieces(x, "29", -4, -11);
        // a, ad, ada, b, da
        Check.addNames(x, "ad:1;da:1;a:1;b:1;ada:1");
        pieces(x, "2", 0);
        pieces(x, "23", 1);
        pieces(x, "232", 2);
        pieces(x, "2323", 1, 1);
        pieces(x, "23232", 1, 2);
        pieces(x, "3", -5);
        pieces(x, "32", 4);
        pieces(x, "332", -5, 4);
        pieces(x, "323", 4, -5);
        pieces(x, "2929", 0, -11, 0, -11);
        x.use(3, 99);
        pieces(x, "2", 0);
        bestReadingTies();
        DialMenus y = Check.with("adgj:1;ad:1;gj:1;m:1;adgjm:1");
        pieces(y, "23456", 2);
        y.drop(2);
        pieces(y, "23456", 1, 3);
        pieces(y, "234566", 1, 3, 3);
        DialMenus z = Check.with("a:1;ad:1;dg:1;g:1");
        pieces(z, "234", 0, 2);
        z.drop(0);
        pieces(z, "234", 0, 2);
        z.drop(2);
        pieces(z, "234", 0, -6);
        z.drop(0);
        pieces(z, "234", -4, 0);
    }

    private static void bestReadingTies() {
        // Fewer digits count before fewer pieces: a, d, gj and not adg with the digit 5.
        pieces(Check.with("adg:1;a:1;d:1;gj:1"), "2345", 0, 2, 3);
        // A name comes before a digit: ad with the digit 2, and not the digit 2 with da.
        pieces(Check.with("ad:1;da:1"), "232", 0, -4);
        // The lower number counts, and neither the length nor the frequency: ad, g and not b, dg.
        pieces(Check.with("ad:1;b:9;dg:9;g:1"), "234", 0, 3);
        pieces(Check.with("a:1;ad:9;dg:1;g:9"), "234", 0, 2);
        // Of three pieces each, b, dg, j has no digit; ad, the digit 4 and j begins with a lower number, but has one.
        pieces(Check.with("ad:1;b:1;dg:1;j:1"), "2345", 1, 2, 3);
    }

    private static void paths(DialMenus x, String... want) {
        for (int name = 0; name < want.length; name++) {
            int[] steps = new int[want[name].length()];
            for (int step = 0; step < steps.length; step++) {
                steps[step] = want[name].charAt(step) - '0';
            }
            check.due("path of " + name, Check.path(x, name), steps);
        }
    }

    private static void promise21Build() {
        DialMenus x = new DialMenus();
        due("21 range first", x.build(1), OUTSIDE);
        due("21 no names", x.build(2), STATE);
        Check.addNames(x, "a:1;b:1;c:1;d:1;e:1");
        due("21 low", x.build(1), OUTSIDE);
        due("21 high", x.build(5), OUTSIDE);
        for (int wrong : WRONG) {
            due("21 build " + wrong, x.build(wrong), OUTSIDE);
        }
        due("21 no menu yet", x.menu(0), STATE);
        due("21 width 2", x.build(2), 12);
        paths(x, "11", "12", "21", "221", "222");
        due("21 width 3", x.build(3), 8);
        paths(x, "1", "2", "31", "32", "33");
        due("21 width 4", x.build(4), 7);
        paths(x, "1", "2", "3", "41", "42");
        x.use(0, 50);
        x.use(1, 20);
        x.use(2, 9);
        x.use(3, 4);
        due("21 skewed", x.build(2), 50 + 40 + 27 + 16 + 4);
        paths(x, "1", "21", "221", "2221", "2222");
        DialMenus one = Check.with("a:9");
        due("21 one name", one.build(4), 0);
        due("21 one name is an end", one.leads(0), 0);
    }

    private static void promise21Ties() {
        DialMenus x = Check.with("a:1;b:1;c:2");
        // 1, 1, 2 in three parts costs 4; in two parts 6.
        due("21 cheaper with more parts", x.build(3), 4);
        DialMenus four = Check.with("a:1;b:1;c:1;d:1");
        due("21 even", four.build(2), 8);
        paths(four, "11", "12", "21", "22");
        // 2 and 2, or 1, 1 and 2, or 1, 2 and 1, or 2, 1 and 1: three parts cost 6, two parts 1 + 3 cost 7.
        due("21 width 3 of four", four.build(3), 6);
        paths(four, "1", "2", "31", "32");
        DialMenus three = Check.with("a:1;b:1;c:1");
        due("21 the first part is small", three.build(2), 5);
        paths(three, "1", "21", "22");
        // Six equal names of width 3: 2, 2, 2 and 3, 3 and 1, 2, 3 cost: 12, 12 and 11.
        DialMenus six = Check.with("a:1;b:1;c:1;d:1;e:1;f:1");
        due("21 width 3 of six", six.build(3), 11);
        paths(six, "1", "21", "22", "31", "32", "33");
        // 2, 1, 2 costs 7 + 2 + 2; 1, 1, 3 and 3, 1, 1 cost 7 + 5, though they have a menu less.
        DialMenus heavy = Check.with("a:1;b:1;c:3;d:1;e:1");
        due("21 width 3 around a heavy name", heavy.build(3), 11);
        paths(heavy, "11", "12", "2", "31", "32");
        due("21 so many menus", heavy.menu(4), 3);
        manyEqualNames();
    }

    private static void manyEqualNames() {
        // Eight equal names of width 4: 4, 4 costs 16; 1, 1, 3, 3 costs 14; 1, 1, 2, 4 costs 14.
        DialMenus x = Check.with("a:1;b:1;c:1;d:1;e:1;f:1;g:1;h:1");
        due("21 width 4 of eight", x.build(4), 14);
        paths(x, "1", "2", "31", "32", "41", "42", "43", "44");
        // Nine equal names of width 3 in two parts cost more than in three.
        Check.addNames(x, "i:1");
        due("21 width 3 of nine", x.build(3), 18);
        paths(x, "11", "12", "13", "21", "22", "23", "31", "32", "33");
        // Twelve equal names of width 4: 1, 3, 4, 4 costs 12 + 0 + 3 + 4 + 4; smaller second or third parts cost more.
        DialMenus y = Check.with(TWELVE);
        due("21 width 4 of twelve", y.build(4), 23);
        paths(y, "1", "21", "22", "23", "31", "32", "33", "34", "41", "42", "43", "44");
        Check.addNames(y, "m:1;n:1");
        due("21 width 2 of fourteen", y.build(2), 2 * 3 + 12 * 4);
        due("21 width 3 of fourteen", y.build(3), 6 * 2 + 8 * 3);
        due("21 width 4 of fourteen", y.build(4), 14 * 2);
        paths(y, "11", "12", "21", "22", "23", "24", "31");
        longPath();
    }

    private static void longPath() {
        // Each name is as heavy as all that come two or more places after it, so the first part always has one name.
        DialMenus x = Check.with("a:89;b:55;c:34;d:21;e:13;f:8;g:5;h:3;i:2;j:1");
        Check.addNames(x, "k:1;l:1");
        due("21 long", x.build(2), 89 + 55 * 2 + 34 * 3 + 21 * 4 + 13 * 5 + 8 * 6 + 5 * 7 + 3 * 8 + 2 * 9 + 10 + 11 + 11);
        paths(x, "1", "21", "221", "2221", "22221", "222221", "2222221", "22222221", "222222221", "2222222221",
            "22222222221", "22222222222");
        due("21 longest path", x.menu(3), 11);
        due("21 menus", x.menu(4), 11);
    }

    private static void promise22Tend() {
        DialMenus x = Check.with("a:1;b:1;c:1;d:1");
        due("22 no menu first", x.tend(101), STATE);
        x.build(2);
        due("22 low", x.tend(-1), OUTSIDE);
        due("22 high", x.tend(101), OUTSIDE);
        for (int wrong : WRONG) {
            due("22 slack " + wrong, x.tend(wrong), OUTSIDE);
        }
        due("22 optimal", x.tend(0), NONE);
        due("22 made once", x.menu(6), 1);
        // a:6 costs 18 in the old menu and 6 + 2 + 3 + 3 in the new one: 400 against 14 * slack.
        x.use(0, 6);
        due("22 cost", x.menu(1), 18);
        due("22 least", x.menu(2), 14);
        due("22 stays", x.tend(29), NONE);
        due("22 stays", x.tend(100), NONE);
        due("22 path stays", x.name(0, 6), 2);
        due("22 changes", x.tend(28), 4);
        paths(x, "1", "21", "221", "222");
        due("22 made twice", x.menu(6), 2);
        due("22 width", x.menu(0), 2);
        due("22 now optimal", x.tend(0), NONE);
        tendAtTheEdge();
    }

    private static void tendAtTheEdge() {
        // The old menu costs 24 and the best 17: 700 against 17 * slack.
        DialMenus x = Check.with("a:1;b:1;c:1;d:1");
        x.build(2);
        x.use(0, 9);
        due("22 cost", x.menu(1), 24);
        due("22 least", x.menu(2), 17);
        due("22 42 is enough", x.tend(42), NONE);
        due("22 41 is not", x.tend(41), 4);
        DialMenus y = Check.with("a:1;b:1;c:1");
        y.build(2);
        y.use(2, 3);
        // 1 + 2 + 6 against 3 + 2 + 2: 200 against 7 * slack.
        due("22 three stay", y.tend(29), NONE);
        due("22 three change", y.tend(28), 3);
        paths(y, "11", "12", "2");
        DialMenus z = Check.with("a:1;b:1;c:2");
        z.build(2);
        paths(z, "11", "12", "2");
        z.use(2, 1);
        due("22 equally cheap stays", z.tend(0), NONE);
        paths(z, "11", "12", "2");
        someStay();
        equalAtTheEdge();
        DialMenus one = Check.with("a:1");
        one.build(3);
        due("22 one name", one.tend(0), NONE);
    }

    private static void someStay() {
        DialMenus x = Check.with("a:1;b:1;c:1;d:1;e:1");
        x.build(4);
        paths(x, "1", "2", "3", "41", "42");
        // Old: 13 + 10 = 23; best: 13 + 2 = 15, with b and c together; 800 against 15 * slack.
        x.use(3, 9);
        due("22 stays at 54", x.tend(54), NONE);
        due("22 the path of a is the same", x.tend(53), 4);
        paths(x, "1", "21", "22", "3", "4");
        // Old: 14 + 10 = 24; best: 14 + 3 = 17, with d and e together.
        x.use(1, 5);
        x.use(2, 5);
        x.use(3, 2);
        due("22 cost", x.menu(1), 14 + 10);
        due("22 least", x.menu(2), 14 + 3);
        due("22 the path of a is the same", x.tend(0), 4);
        // The path of c was 3 and is 2: nothing but its first step is different.
        DialMenus y = Check.with("a:1;b:1;c:1;d:1;e:1");
        y.build(4);
        y.use(2, 9);
        y.use(3, 9);
        y.use(4, 9);
        due("22 five paths are different", y.tend(0), 5);
        paths(y, "11", "12", "2", "3", "4");
        aStepMore();
    }

    private static void aStepMore() {
        // Old: 264; best: 247. The path of e only has a step more, and that of f is the same.
        DialMenus x = Check.with("a:9;b:40;c:40;d:3;e:20;f:9");
        x.build(3);
        paths(x, "11", "12", "2", "31", "32", "33");
        x.use(0, 40);
        due("22 cost", x.menu(1), 264);
        due("22 least", x.menu(2), 247);
        due("22 a step more is different", x.tend(0), 5);
        paths(x, "1", "2", "31", "321", "322", "33");
    }

    private static void equalAtTheEdge() {
        DialMenus x = Check.with("a:5;b:5;c:10");
        x.build(2);
        paths(x, "11", "12", "2");
        x.use(0, 10);
        x.use(2, 5);
        // Old: 20 + 10 + 5 = 35; best: 10 + 10 + 10 = 30; 500 against 30 * slack.
        due("22 stays at 17", x.tend(17), NONE);
        x.use(0, 12);
        x.use(1, 4);
        x.use(2, 4);
        // Old: 24 + 8 + 4 = 36; best: 12 + 8 + 8 = 28; 800 against 28 * slack.
        due("22 stays at 29", x.tend(29), NONE);
        x.use(0, 6);
        x.use(1, 3);
        x.use(2, 1);
        // Old: 12 + 6 + 1 = 19; best: 6 + 6 + 2 = 14.
        due("22 stays at 36", x.tend(36), NONE);
        x.use(0, 8);
        x.use(1, 2);
        x.use(2, 4);
        // Old: 16 + 4 + 4 = 24; best: 8 + 4 + 8 = 20; 400 is not greater than 20 * 20.
        due("22 exactly the slack stays", x.tend(20), NONE);
        due("22 a little less changes", x.tend(19), 3);
    }

    private static void promise23Path() {
        DialMenus x = Check.with("a:1;b:1;c:1;d:1;e:1");
        due("23 no menu first", x.path(9, 9), STATE);
        x.build(2);
        due("23 step", x.path(4, 0), 2);
        due("23 step", x.path(4, 1), 2);
        due("23 step", x.path(4, 2), 2);
        due("23 step", x.path(3, 2), 1);
        due("23 past the end", x.path(4, 3), UNKNOWN);
        due("23 past the end", x.path(0, 2), UNKNOWN);
        due("23 no name", x.path(5, 0), UNKNOWN);
        for (int wrong : WRONG) {
            due("23 step " + wrong, x.path(0, wrong), UNKNOWN);
            due("23 name " + wrong, x.path(wrong, 0), UNKNOWN);
        }
        x.drop(4);
        due("23 removed", x.path(0, 0), STATE);
        DialMenus one = Check.with("a:1");
        one.build(2);
        due("23 no step", one.path(0, 0), UNKNOWN);
    }

    private static void promise24Leads() {
        DialMenus x = Check.with("a:1;b:1;c:1;d:1;e:1");
        due("24 no menu first", x.leads(-1), STATE);
        x.build(2);
        int[][] due = {
            {0, NONE}, {1, NONE}, {2, NONE}, {3, UNKNOWN}, {9, UNKNOWN}, {10, UNKNOWN}, {11, 0}, {12, 1}, {13, UNKNOWN},
            {20, UNKNOWN}, {21, 2}, {22, NONE}, {221, 3}, {222, 4}, {223, UNKNOWN}, {2221, UNKNOWN}, {111, UNKNOWN},
            {110, UNKNOWN}, {101, UNKNOWN}, {100, UNKNOWN}, {-1, UNKNOWN}, {-11, UNKNOWN}, {-22, UNKNOWN},
            {2147483647, UNKNOWN}, {-2147483648, UNKNOWN}, {1111111111, UNKNOWN}, {2000000000, UNKNOWN}
        };
        for (int[] row : due) {
            due("24 leads(" + row[0] + ")", x.leads(row[0]), row[1]);
        }
        DialMenus one = Check.with("a:1");
        one.build(2);
        due("24 the whole is an end", one.leads(0), 0);
        due("24 no part", one.leads(1), UNKNOWN);
        leadsFar();
    }

    private static void leadsFar() {
        DialMenus x = Check.with("a:1;b:1;c:2;d:3;e:5;f:8;g:13;h:21;i:34;j:55");
        Check.addNames(x, "k:89");
        x.build(2);
        due("24 longest path", x.menu(3), 10);
        due("24 ten digits", x.leads(1111111111), 0);
        due("24 ten digits", x.leads(1111111112), 1);
        due("24 nine digits", x.leads(111111111), NONE);
        due("24 nine digits", x.leads(111111112), 2);
        due("24 the last name", x.leads(2), 10);
    }

    private static void promise25Menu() {
        DialMenus x = Check.with("a:1;b:1;c:1;d:1;e:1");
        due("25 no menu first", x.menu(9), STATE);
        x.build(2);
        int[] two = {2, 12, 12, 3, 4, 2, 1};
        for (int what = 0; what <= 6; what++) {
            due("25 width 2, " + what, x.menu(what), two[what]);
        }
        due("25 what -1", x.menu(-1), OUTSIDE);
        due("25 what 7", x.menu(7), OUTSIDE);
        for (int wrong : WRONG) {
            due("25 what " + wrong, x.menu(wrong), OUTSIDE);
        }
        x.use(4, 99);
        due("25 cost by the present frequencies", x.menu(1), 12 + 3 * 98);
        due("25 optimal now", x.menu(2), 99 + 4 * 3);
        x.build(4);
        int[] four = {4, 105, 105, 2, 2, 4, 2};
        for (int what = 0; what <= 6; what++) {
            due("25 width 4, " + what, x.menu(what), four[what]);
        }
        x.drop(0);
        due("25 removed", x.menu(6), STATE);
        x.build(3);
        due("25 made since the beginning", x.menu(6), 3);
        DialMenus one = Check.with("a:1");
        one.build(2);
        int[] single = {2, 0, 0, 0, 0, 0, 1};
        for (int what = 0; what <= 6; what++) {
            due("25 one name, " + what, one.menu(what), single[what]);
        }
    }

    private static void promise26Count() {
        DialMenus x = Check.with("a:1;b:1");
        Check.addNames(x, "c:1");
        Check.addNames(x, "c:1");
        x.blank();
        x.drop(0);
        x.drop(7);
        Check.takeKeypad(x, PLAIN);
        Check.takeKeypad(x, "abc");
        Check.type(x, "2345");
        int[] want = {2, 3, 4, 2, 1, 1};
        for (int what = 0; what <= 5; what++) {
            due("26 count " + what, x.count(what), want[what]);
        }
        x.blank();
        for (int times = 2; times <= 4; times++) {
            Check.takeKeypad(x, times % 2 == 0 ? "abcdefghijklmnopqrs,t,u,v,w,x,y,z" : PLAIN);
            due("26 every keypad counts", x.count(4), times);
            Check.addNames(x, "c" + (char) ('a' + times) + ":1");
            due("26 every list counts", x.count(3), 1 + times);
            x.drop(0);
            due("26 every name that is removed counts", x.count(5), times);
        }
        due("26 what -1", x.count(-1), OUTSIDE);
        due("26 what 6", x.count(6), OUTSIDE);
        for (int wrong : WRONG) {
            due("26 what " + wrong, x.count(wrong), OUTSIDE);
        }
    }

    private static long mixed(int... numbers) {
        long h = 1571;
        for (int at = 0; at < 26; at++) {
            h = 31 * h + ("22233344455566677778889999".charAt(at) - '0');
        }
        for (int v : numbers) {
            h = 31 * h + v;
        }
        return h;
    }

    private static void promise27Digest() {
        DialMenus x = new DialMenus();
        due("27 empty", x.digest(), mixed(
            0, 0, 0, 0, NONE, 0, 0,
            1, 0, 0, 1,
            0, 0, 0, 0, 0, 0));
        Check.addNames(x, "b:3;ad:2");
        Check.type(x, "29");
        Check.write(x, "q ");
        int[] numbers = {
            'a', 'd', 2, 2, 0, 2, 2, 0, NONE, 1, 2, 3,
            'b', 1, 3, 0, NONE, 1, 0, NONE, 1, 2,
            2, 5, 0, 2, 2, 7, 7,
            2, 9,
            2, 1, 2, 1, 1, -11,
            'q', ' ',
            2, 2, 2, 1, 0, 0
        };
        due("27 without a menu", x.digest(), mixed(numbers));
        x.build(2);
        x.wipe();
        due("27 with a menu", x.digest(), mixed(
            'a', 'd', 2, 2, 0, 2, 2, 0, 1, 1, 2, 3,
            'b', 1, 3, 0, NONE, 1, 0, 1, 1, 2,
            2, 5, 0, 2, 2, 7, 7,
            1, 0,
            1, 0, 0, 1,
            2, 5, 5, 1, 1, 2, 1, 1, 2,
            'q', ' ',
            2, 2, 0, 1, 0, 0));
        due("27 changes nothing", x.digest(), x.digest());
    }
}
