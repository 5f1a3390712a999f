import java.util.List;

/** The states in which the edges of the document are tried. */
final class Scenes {
    static final String PLAIN = "abc,def,ghi,jkl,mno,pqrs,tuv,wxyz";
    /** Puts a to s on the digit 2. */
    static final String WIDE = "abcdefghijklmnopqrs,t,u,v,w,x,y,z";
    static final String TWELVE = "a:1;b:1;c:1;d:1;e:1;f:1;g:1;h:1;i:1;j:1;k:1;l:1";
    /** A list of names of exactly 50 characters. */
    static final String FIFTY = "wxyz:1;b:1;c:1;d:1;e:1;f:1;g:1;h:1;i:1;j:1;k:1;l:1";

    static final Scene FRESH = Scene.of("a new object");
    static final Scene BEGUN = Scene.of("a text that is begun", "write ab:1;c");
    static final Scene FULL_TEXT = Scene.of("a full text", "write " + FIFTY);
    static final Scene FULL_INPUT = Scene.of("a full input", "write a:3;b:4;ad:5", "names", "type 2323232323");
    /** 0 a:5 2, 1 anna:5 2662, 2 bob:9 262, 3 cam:2 226, 4 can:2 226. */
    static final Scene FIVE = Scene.of("five names", "write anna:5;bob:9;can:2;cam:2;a:5", "names", "type 226", "write x:1;y");
    /** a to e of width 2 have the paths 11, 12, 21, 221 and 222; then e became heavier. */
    static final Scene MENU = Scene.of("a menu that is not the best any more", "write a:1;b:1;c:1;d:1;e:1", "names", "build 2",
        "use 4 9", "type 23", "write a:1");
    static final Scene ONE = Scene.of("one name with its menu", "write solo:99", "names", "build 3", "type 7656");
    static final Scene GONE = Scene.of("all names gone", "write a:1;b:2", "names", "build 2", "drop 1", "build 4", "drop 0",
        "type 2", "write " + PLAIN);
    static final Scene FULL_NAMES = Scene.of("fourteen names", "write " + TWELVE, "names", "write m:1;n:99", "names", "build 4",
        "use 0 50", "type 2222", "write o:1");
    static final Scene LONG = Scene.of("long names", "write zzzzzzzz:99;aaaaaaaa:99;aaaaaaad:99", "names",
        "write " + WIDE, "dial", "build 2", "type 2222222299", "write aaaaaaaa:1");

    static final List<Scene> ALL = List.of(FRESH, BEGUN, FULL_TEXT, FULL_INPUT, FIVE, MENU, ONE, GONE, FULL_NAMES, LONG);

    private Scenes() {
    }
}
