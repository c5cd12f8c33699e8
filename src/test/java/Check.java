import java.util.ArrayList;
import java.util.List;

/** What the tests share: answers held against what is due, courts told by a text. */
final class Check {
    private final List<String> wrong = new ArrayList<>();
    private int looked = 0;

    void due(String what, long got, long want) {
        looked++;
        if (got != want) wrong.add(what + " answered " + got + ", due is " + want);
    }

    /** Looks that a call is refused so, counts as it should in STATUS, and changes nothing else. */
    void refused(CrownTwo x, String what, Call call, long answer, int reason) {
        long digest = x.digest();
        int[] before = {x.status(0), x.status(1), x.status(2)};
        due(what, call.on(x), answer);
        for (int i = 0; i < 3; i++) {
            due(what + ", then status(" + i + ")", x.status(i), before[i] + (i == reason ? 1 : 0));
        }
        due(what + ", then digest()", x.digest(), digest);
    }

    void bad(CrownTwo x, String what, Call call) {
        refused(x, what, call, CrownTwo.BAD, 0);
    }

    void no(CrownTwo x, String what, Call call) {
        refused(x, what, call, CrownTwo.NO, 1);
    }

    void full(CrownTwo x, String what, Call call) {
        refused(x, what, call, CrownTwo.FULL, 2);
    }

    /** Looks that a call answers so and that nothing is changed by it, STATUS neither. */
    void asked(CrownTwo x, String what, Call call, long answer) {
        refused(x, what, call, answer, -1);
    }

    /** Ends the test's program: exit code 1 if an answer was wrong. */
    void end(String name) {
        for (String line : wrong) System.out.println(name + ": " + line);
        System.out.println(name + ": " + looked + " looks, " + wrong.size() + " wrong");
        if (!wrong.isEmpty() || looked == 0) System.exit(1);
    }

    static void type(CrownTwo x, String text) {
        x.clear();
        for (int i = 0; i < text.length(); i++) x.type(text.charAt(i));
    }

    static int read(CrownTwo x, String text) {
        type(x, text);
        return x.read();
    }

    static CrownTwo court(String text) {
        CrownTwo x = new CrownTwo();
        int items = read(x, text);
        if (items < 1) throw new IllegalStateException("the test's own court is at fault: " + items);
        x.clear();
        return x;
    }

    /** The digest of these values. */
    static long fold(long... values) {
        long h = 1249;
        for (long v : values) h = 31 * h + v;
        return h;
    }

    interface Call {
        long on(CrownTwo x);
    }
}
