import java.util.Arrays;
import java.util.Random;

/** Runs of calls by fixed seeds, ordinary numbers and wild ones: CrownTwo answers as SlowCrown does, and never throws. */
public final class SlowCrownTest {
    private static final int RUNS = 400, CALLS = 512;
    private static final String[] NAMES = {
        "court", "heir", "type", "clear", "read", "pair", "ask", "day", "feed", "undo", "of", "makes", "lift",
        "both", "friends", "then", "most", "keep", "lasts", "pairs", "note", "forget", "is", "heart", "next",
        "spite", "slips", "reigns", "part", "image", "from", "status", "count", "digest"};
    /** How often each comes: what throws much away comes seldom. */
    private static final int[] OFTEN = {
        1, 4, 1, 1, 1, 8, 20, 14, 10, 10, 6, 4, 8,
        8, 6, 6, 2, 5, 8, 8, 10, 2, 8, 10, 10,
        6, 6, 8, 4, 3, 3, 2, 4, 1};
    /** The bounds of each call's numbers, least and most, as the document tells them (heirs: as if all were there). */
    private static final int[][] BOUNDS = {
        {0, 99}, {0, 5, 0, 255, 0, 255, 0, 20}, {0, 127}, {}, {}, {0, 5, 0, 5}, {0, 7}, {1, 60}, {1, 20}, {},
        {0, 5, 0, 4}, {0, 5}, {0, 7}, {0, 60}, {}, {0, 90}, {1, 4, -1, 4}, {1, 60}, {0, 5, 0, 5}, {0, 1},
        {0, 5, 0, 7, 0, 99, 0, 99, 0, 1}, {}, {0, 5}, {0, 5, 0, 7}, {0, 5}, {0, 7}, {0, 7, 0, 10},
        {0, 999999, 0, 60}, {0, 1}, {0, 1}, {0, 1}, {0, 2}, {0, 6}, {}};
    private static final String[] PIECES = {
        "court", "heir", "like", "hate", "pair", ";", ";", ";", " ", "  ", "0", "1", "2", "5", "7", "8", "12", "20",
        "21", "99", "100", "x", "A", "-", "heirs", "\t"};

    private static final Check CHECK = new Check();
    private final Random random;
    private final CrownTwo quick = new CrownTwo();
    private final SlowCrown slow = new SlowCrown();
    private final String run;
    private int calls = 0;

    private SlowCrownTest(int seed) {
        random = new Random(seed);
        run = "run " + seed;
    }

    public static void main(String[] args) {
        for (int seed = 0; seed < RUNS; seed++) new SlowCrownTest(seed).go();
        CHECK.end("SlowCrownTest");
    }

    private void go() {
        int weight = Arrays.stream(OFTEN).sum();
        while (calls < CALLS) {
            int at = random.nextInt(weight + 2);
            int which = 0;
            while (which < NAMES.length && at >= OFTEN[which]) at -= OFTEN[which++];
            if (which < NAMES.length) both(NAMES[which], numbers(BOUNDS[which]));
            else tellText();
        }
    }

    private int[] numbers(int[] bounds) {
        int[] a = new int[bounds.length / 2];
        for (int i = 0; i < a.length; i++) a[i] = number(bounds[2 * i], bounds[2 * i + 1]);
        return a;
    }

    private int number(int least, int most) {
        int luck = random.nextInt(60);
        if (luck == 0) return least - 1;
        if (luck == 1) return most + 1;
        if (luck == 2) return random.nextInt();
        return least + random.nextInt(most - least + 1);
    }

    private void tellText() {
        StringBuilder text = new StringBuilder();
        if (random.nextInt(4) > 0) text.append("court ").append(random.nextInt(100)).append(';');
        int items = random.nextInt(8);
        for (int i = 0; i < items; i++) text.append(item());
        if (random.nextInt(3) == 0 && text.length() > 0) spoil(text);
        both("clear");
        for (int i = 0; i < text.length(); i++) both("type", text.charAt(i));
        both("read");
    }

    private String item() {
        int p = random.nextInt(4), q = random.nextInt(4);
        return switch (random.nextInt(6)) {
            case 0 -> "like " + p + " " + random.nextInt(8) + " " + random.nextInt(8) + ";";
            case 1 -> "hate " + p + " " + random.nextInt(8) + ";";
            case 2 -> "pair " + p + " " + q + ";";
            default -> "heir " + random.nextInt(6) + " " + random.nextInt(21) + ";";
        };
    }

    private void spoil(StringBuilder text) {
        int at = random.nextInt(text.length());
        int end = Math.min(text.length(), at + random.nextInt(3));
        text.replace(at, end, PIECES[random.nextInt(PIECES.length)]);
    }

    private void both(String name, int... a) {
        calls++;
        String what = run + ", call " + calls + ", " + name + Arrays.toString(a);
        CHECK.due(what, answer(name, a), slow.call(name, a));
        CHECK.due(what + ", then digest()", quick.digest(), slow.call("digest"));
        for (int i = 0; i < 3; i++) CHECK.due(what + ", then status", quick.status(i), slow.call("status", i));
    }

    private long answer(String name, int[] a) {
        return switch (name) {
            case "court" -> quick.court(a[0]);
            case "heir" -> quick.heir(a[0], a[1], a[2], a[3]);
            case "type" -> quick.type(a[0]);
            case "clear" -> quick.clear();
            case "read" -> quick.read();
            case "pair" -> quick.pair(a[0], a[1]);
            case "ask" -> quick.ask(a[0]);
            case "day" -> quick.day(a[0]);
            case "feed" -> quick.feed(a[0]);
            case "undo" -> quick.undo();
            case "of" -> quick.of(a[0], a[1]);
            case "makes" -> quick.makes(a[0]);
            case "lift" -> quick.lift(a[0]);
            case "both" -> quick.both(a[0]);
            case "friends" -> quick.friends();
            case "then" -> quick.then(a[0]);
            case "most" -> quick.most(a[0], a[1]);
            case "keep" -> quick.keep(a[0]);
            case "lasts" -> quick.lasts(a[0], a[1]);
            case "pairs" -> quick.pairs(a[0]);
            case "note" -> quick.note(a[0], a[1], a[2], a[3], a[4]);
            case "forget" -> quick.forget();
            case "is" -> quick.is(a[0]);
            case "heart" -> quick.heart(a[0], a[1]);
            case "next" -> quick.next(a[0]);
            case "spite" -> quick.spite(a[0]);
            case "slips" -> quick.slips(a[0], a[1]);
            case "reigns" -> quick.reigns(a[0], a[1]);
            case "part" -> quick.part(a[0]);
            case "image" -> quick.image(a[0]);
            case "from" -> quick.from(a[0]);
            case "status" -> quick.status(a[0]);
            case "count" -> quick.count(a[0]);
            default -> quick.digest();
        };
    }
}
