import java.util.ArrayList;
import java.util.List;
import java.util.function.Supplier;

/** Boundary cases: each is a test of its own, bears its promise's number, has objects of its own and fails alone. */
final class Edges {
    private static final int PROMISES = 35;

    private final String name;
    private final int first, last;
    private final int[] cases = new int[PROMISES + 1];
    private final List<String> failed = new ArrayList<>();

    /** The cases of the promises from the first to the last: each of these must have one. */
    Edges(String name, int first, int last) {
        this.name = name;
        this.first = first;
        this.last = last;
    }

    void edge(int promise, String words, Body body) {
        cases[promise]++;
        Check check = new Check();
        String title = name + ": promise " + promise + ": " + words;
        try {
            body.look(check);
        } catch (RuntimeException e) {
            failed.add(title + ": threw " + e);
        }
        for (String fault : check.faults()) failed.add(title + ": " + fault);
    }

    /** A call that is refused: what it answers and counts as, and that nothing else is changed by it. */
    void refused(int promise, String words, Supplier<CrownTwo> made, Check.Call call, long answer, int reason) {
        edge(promise, words, c -> c.changesNothing(made, call, answer, reason));
    }

    void bad(int promise, String words, Supplier<CrownTwo> made, Check.Call call) {
        refused(promise, words, made, call, CrownTwo.BAD, 0);
    }

    void no(int promise, String words, Supplier<CrownTwo> made, Check.Call call) {
        refused(promise, words, made, call, CrownTwo.NO, 1);
    }

    void full(int promise, String words, Supplier<CrownTwo> made, Check.Call call) {
        refused(promise, words, made, call, CrownTwo.FULL, 2);
    }

    /** A call that only tells: what it answers, and that nothing is changed by it, STATUS neither. */
    void tells(int promise, String words, Supplier<CrownTwo> made, Check.Call call, long answer) {
        refused(promise, words, made, call, answer, -1);
    }

    /** Ends the test's program: exit code 1 if a case failed or a promise has none. */
    void end() {
        int all = 0;
        for (int promise = first; promise <= last; promise++) {
            all += cases[promise];
            if (cases[promise] == 0) failed.add(name + ": promise " + promise + " has no case");
        }
        for (String line : failed) System.out.println(line);
        System.out.println(name + ": promises " + first + " to " + last + ", " + all + " cases, " + failed.size() + " wrong");
        if (!failed.isEmpty()) System.exit(1);
    }

    interface Body {
        void look(Check check);
    }
}
