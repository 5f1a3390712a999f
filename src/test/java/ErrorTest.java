import java.util.Random;

/** Any argument in any state: no call throws, a call that answers an error changes nothing, nor does one that only tells. */
public final class ErrorTest {
    private static final int RUNS = 60;
    // Beyond the document's 512 calls too, where the answers are free but nothing may throw.
    private static final int CALLS = 1200;
    private static final String CHANGING = " letter blank names dial drop use press back wipe build tend ";
    private static final String[] TEXTS = {
        "a:1;b:2;c:3;d:4;e:5;f:6;g:7;h:8;i:9;j:10;k:11", "aa:9;bb:9;cc:9;dd:99", "abcdefgh:99;abcdefg:1;b:50",
        "a,b,c,d,e,f,g,hijklmnopqrstuvwxyz", "abc,def,ghi,jkl,mno,pqrs,tuv,wxyz", "abcdefghijklmnopqrs,t,u,v,w,x,y,z"
    };
    private static final Check check = new Check();

    public static void main(String[] args) {
        for (int seed = 0; seed < RUNS; seed++) {
            run(new Random(seed));
        }
        check.end();
    }

    private static void run(Random random) {
        DialMenus x = new DialMenus();
        for (int calls = 0; calls < CALLS; calls++) {
            if (random.nextInt(60) == 0) {
                x.blank();
                Check.write(x, TEXTS[random.nextInt(TEXTS.length)]);
            }
            String method = Calls.METHODS[random.nextInt(Calls.METHODS.length)];
            if (random.nextInt(4) != 0 && (method.equals("drop") || method.equals("blank"))) {
                continue;
            }
            callOnce(x, method, argument(random), argument(random));
        }
    }

    private static int argument(Random random) {
        int kind = random.nextInt(4);
        return kind == 0 ? random.nextInt() : kind == 1 ? Calls.ODD[random.nextInt(Calls.ODD.length)] : random.nextInt(12) - 1;
    }

    private static void callOnce(DialMenus x, String method, int a, int b) {
        String call = method + "(" + a + ", " + b + ")";
        try {
            long before = x.digest();
            int answer = Calls.answer(x, method, a, b);
            boolean mayChange = CHANGING.contains(" " + method + " ") && answer > DialMenus.UNKNOWN;
            if (!mayChange) {
                check.due("the digest after " + call + " with the answer " + answer, x.digest(), before);
            }
        } catch (RuntimeException thrown) {
            check.holds(call + " threw " + thrown, false);
        }
    }
}
