import java.util.ArrayList;
import java.util.List;
import java.util.function.Supplier;

/** What the tests share: answers held against what is due, courts told by a text. */
final class Check {
    private final List<String> wrong = new ArrayList<>();
    private int looked = 0;

    void due(String what, long got, long want) {
        looked++;
        if (got != want) wrong.add(what + " answered " + got + ", due is " + want);
    }

    /** Looks that a call is refused so, counts as it should in STATUS, and changes nothing else. */
    void refused(CrownTwo x, String what, Call call, long answer, int reason) {
        long digest = x.digest();
        int[] before = {x.status(0), x.status(1), x.status(2)};
        due(what, call.on(x), answer);
        for (int i = 0; i < 3; i++) {
            due(what + ", then status(" + i + ")", x.status(i), before[i] + (i == reason ? 1 : 0));
        }
        due(what + ", then digest()", x.digest(), digest);
    }

    void bad(CrownTwo x, String what, Call call) {
        refused(x, what, call, CrownTwo.BAD, 0);
    }

    void no(CrownTwo x, String what, Call call) {
        refused(x, what, call, CrownTwo.NO, 1);
    }

    void full(CrownTwo x, String what, Call call) {
        refused(x, what, call, CrownTwo.FULL, 2);
    }

    /** Looks that a call answers so and that nothing is changed by it, STATUS neither. */
    void asked(CrownTwo x, String what, Call call, long answer) {
        refused(x, what, call, answer, -1);
    }

    /** As refused, but on two objects made alike: all that can be seen of the one called is as of the other. */
    void changesNothing(Supplier<CrownTwo> made, Call call, long answer, int reason) {
        CrownTwo called = made.get(), other = made.get();
        due("the call", call.on(called), answer);
        for (int i = 0; i < 3; i++) {
            due("then status(" + i + ")", called.status(i), other.status(i) + (i == reason ? 1 : 0));
        }
        due("all else is as it was", Courts.whole(called).equals(Courts.whole(other)) ? 1 : 0, 1);
    }

    /** What was wrong; to have looked at nothing is wrong, too. */
    List<String> faults() {
        return looked == 0 ? List.of("looked at nothing") : wrong;
    }

    /** Ends the test's program: exit code 1 if an answer was wrong. */
    void end(String name) {
        for (String line : faults()) System.out.println(name + ": " + line);
        System.out.println(name + ": " + looked + " looks, " + wrong.size() + " wrong");
        if (!faults().isEmpty()) System.exit(1);
    }

    static void type(CrownTwo x, String text) {
        x.clear();
        for (int i = 0; i < text.length(); i++) x.type(text.charAt(i));
    }

    static int read(CrownTwo x, String text) {
        type(x, text);
        return x.read();
    }

    static CrownTwo court(String text) {
        CrownTwo x = new CrownTwo();
        int items = read(x, text);
        if (items < 1) throw new IllegalStateException("the test's own court is at fault: " + items);
        x.clear();
        return x;
    }

    /** The digest of these values. */
    static long fold(long... values) {
        long h = 1249;
        for (long v : values) h = 31 * h + v;
        return h;
    }

    interface Call {
        long on(CrownTwo x);
    }
}
