import java.math.BigInteger;
import java.util.ArrayList;
import java.util.List;
import java.util.function.Supplier;

/** Promises 30 to 35, their boundary cases: part, image, from, status, count, digest. */
public final class StandEdgesTest {
    private static final Edges EDGES = new Edges("StandEdgesTest", 30, 35);

    public static void main(String[] args) {
        part();
        imagesKept();
        imagesKeepAllBut();
        from();
        fromAndUndo();
        statusOfEach();
        statusNotCounted();
        count();
        digestOfEach();
        digestWraps();
        EDGES.end();
    }

    private static void part() {
        EDGES.tells(30, "THE FRACTION at first, above", CrownTwo::new, x -> x.part(0), 0);
        EDGES.tells(30, "THE FRACTION at first, below above 0", CrownTwo::new, x -> x.part(1), 1);
        Supplier<CrownTwo> nine = () -> {
            CrownTwo x = Courts.plainPair(10);
            x.slips(0, 4);
            return x;
        };
        EDGES.tells(30, "lowest terms: 36 by 100, above", nine, x -> x.part(0), 9);
        EDGES.tells(30, "lowest terms: 36 by 100, below", nine, x -> x.part(1), 25);
    }

    private static void imagesKept() {
        for (int i = 0; i < 2; i++) {
            int at = i;
            EDGES.no(32, "NO: none was kept as " + i, CrownTwo::new, x -> x.from(at));
            EDGES.no(32, "NO: none was kept as " + i + ", the other was", () -> {
                CrownTwo x = new CrownTwo();
                x.image(1 - at);
                return x;
            }, x -> x.from(at));
            EDGES.edge(31, "an IMAGE of a new object, " + i, c -> {
                CrownTwo x = new CrownTwo();
                c.due("image", x.image(at), 1);
                long first = x.digest();
                x.court(3);
                x.heir(0, 0, 0, 0);
                c.due("from", x.from(at), 1);
                c.due("digest", x.digest(), first);
            });
        }
        EDGES.edge(31, "kept again: the later one", c -> {
            CrownTwo x = Courts.heirs(6);
            x.image(0);
            x.court(3);
            c.due("image", x.image(0), 1);
            x.court(7);
            x.from(0);
            c.due("HEIRS", x.count(0), 0);
            c.due("WARMTH", x.count(2), 3);
        });
        EDGES.edge(31, "the two are apart", c -> {
            CrownTwo x = new CrownTwo();
            x.image(0);
            x.feed(1);
            x.image(1);
            x.from(0);
            c.due("WARMTH of 0", x.count(2), 50);
            x.from(1);
            c.due("WARMTH of 1", x.count(2), 51);
        });
        EDGES.edge(31, "a refused one keeps nothing: the one that was kept stays", c -> {
            CrownTwo x = new CrownTwo();
            x.image(1);
            x.feed(9);
            x.image(2);
            x.image(-1);
            x.from(1);
            c.due("WARMTH", x.count(2), 50);
            c.due("the other is none still", x.from(0), CrownTwo.NO);
        });
        EDGES.edge(31, "nothing is changed but the IMAGE", c -> {
            CrownTwo x = Courts.busy();
            long before = x.digest();
            x.image(0);
            c.due("digest", x.digest(), before);
        });
    }

    private static void imagesKeepAllBut() {
        EDGES.edge(31, "all but them: an IMAGE keeps none of the other", c -> {
            CrownTwo x = new CrownTwo();
            x.image(0);
            x.feed(1);
            x.image(1);
            x.from(0);
            c.due("from(1)", x.from(1), 1);
            c.due("WARMTH", x.count(2), 51);
        });
        EDGES.edge(31, "all but THE TEXT", c -> {
            CrownTwo x = new CrownTwo();
            Check.type(x, "court 4;");
            x.image(0);
            x.clear();
            x.from(0);
            c.due("count(6)", x.count(6), 0);
            c.due("read", x.read(), -10);
        });
        EDGES.edge(31, "all but THE FRACTION", c -> {
            CrownTwo x = Courts.plainPair(10);
            x.image(0);
            x.slips(0, 1);
            x.from(0);
            c.due("above", x.part(0), 81);
            c.due("below", x.part(1), 100);
        });
        EDGES.edge(31, "all but STATUS", c -> {
            CrownTwo x = new CrownTwo();
            x.image(0);
            x.undo();
            x.from(0);
            c.due("status(1)", x.status(1), 1);
        });
    }

    private static void from() {
        EDGES.edge(32, "from more HEIRS and NOTES to less, and back", c -> {
            CrownTwo x = Courts.heirs(6);
            for (int i = 0; i < 6; i++) x.note(5, i, i, i, 0);
            x.image(0);
            x.court(9);
            x.heir(3, 1, 2, 3);
            x.image(1);
            long less = x.digest();
            x.from(0);
            c.due("HEIRS", x.count(0), 6);
            c.due("NOTES", x.count(4), 6);
            c.due("the 7th HEIR", x.heir(0, 0, 0, 0), CrownTwo.FULL);
            c.due("the 7th NOTE", x.note(0, 0, 0, 0, 0), CrownTwo.FULL);
            x.from(1);
            c.due("less", x.digest(), less);
            c.due("the second HEIR", x.heir(0, 0, 0, 0), 1);
        });
        EDGES.edge(32, "an IMAGE is not changed by what goes on from it", c -> {
            CrownTwo x = Courts.busy();
            x.from(0);
            long first = x.digest();
            x.undo();
            x.undo();
            x.ask(3);
            x.forget();
            x.note(2, 2, 2, 2, 0);
            x.heir(0, 0, 0, 0);
            x.day(60);
            x.court(2);
            x.heir(1, 1, 1, 1);
            x.from(0);
            c.due("digest", x.digest(), first);
        });
        EDGES.edge(32, "again and again from the same", c -> {
            CrownTwo x = new CrownTwo();
            x.image(1);
            for (int i = 0; i < 5; i++) {
                x.feed(20);
                c.due("from(1)", x.from(1), 1);
                c.due("WARMTH", x.count(2), 50);
            }
        });
        EDGES.edge(32, "THE PAIR, DONE, the DAY come with it", c -> {
            CrownTwo x = Courts.plainPair(40);
            x.ask(7);
            x.day(3);
            x.image(0);
            x.court(0);
            x.from(0);
            c.due("the first", x.of(0, 4), 1);
            c.due("the second", x.of(1, 4), 2);
            c.due("it is DONE", x.ask(7), CrownTwo.NO);
            c.due("the DAY", x.count(1), 3);
            c.due("WARMTH", x.count(2), 32);
        });
    }

    private static void fromAndUndo() {
        EDGES.edge(32, "what may be undone they keep: 8", c -> {
            CrownTwo x = new CrownTwo();
            for (int i = 0; i < 9; i++) x.day(1);
            x.image(0);
            x.court(3);
            for (int i = 0; i < 8; i++) x.feed(1);
            x.from(0);
            c.due("may be undone", x.count(5), 8);
            for (int day = 8; day >= 1; day--) c.due("undo", x.undo(), day);
            c.due("no more", x.undo(), CrownTwo.NO);
        });
        EDGES.edge(32, "what may be undone they keep: none", c -> {
            CrownTwo x = new CrownTwo();
            x.image(0);
            for (int i = 0; i < 8; i++) x.day(1);
            x.from(0);
            c.due("may be undone", x.count(5), 0);
            c.due("undo", x.undo(), CrownTwo.NO);
        });
        EDGES.edge(32, "undone behind it: the IMAGE keeps it still", c -> {
            CrownTwo x = new CrownTwo();
            x.day(5);
            x.image(0);
            x.undo();
            x.feed(3);
            x.from(0);
            c.due("undo", x.undo(), 0);
            c.due("WARMTH", x.count(2), 50);
        });
        EDGES.edge(32, "going on from one can not be undone", c -> {
            CrownTwo x = new CrownTwo();
            x.day(1);
            x.image(0);
            x.day(1);
            x.day(1);
            x.from(0);
            c.due("may be undone", x.count(5), 1);
            c.due("undo", x.undo(), 0);
        });
    }

    private static void statusOfEach() {
        counted("BAD, as -2", 0, x -> x.day(0));
        counted("BAD, as -100 of makes", 0, x -> x.makes(6));
        counted("BAD, as -10 of most", 0, x -> x.most(0, 0));
        counted("BAD, as -1 of status", 0, x -> x.status(3));
        counted("BAD, of a long", 0, x -> x.part(2));
        counted("BAD, two numbers at once: one call", 0, x -> x.slips(8, 11));
        counted("BAD, five numbers at once: one call", 0, x -> x.note(9, 9, 100, 100, 2));
        counted("NO, none may be undone", 1, x -> x.undo());
        counted("NO, no PAIR", 1, x -> x.ask(0));
        counted("NO, no PAIR, of most", 1, x -> x.most(1, 0));
        counted("NO, no IMAGE", 1, x -> x.from(0));
        counted("FULL, of HEIRS", 2, x -> x.heir(0, 0, 0, 0));
        counted("FULL, of NOTES", 2, x -> x.note(0, 0, 0, 0, 0));
        counted("FULL, of THE TEXT", 2, x -> x.type(32));
    }

    private static CrownTwo allFull() {
        CrownTwo x = Courts.heirs(6);
        for (int i = 0; i < 6; i++) x.note(0, 0, 0, 0, 0);
        for (int i = 0; i < 150; i++) x.type(32);
        return x;
    }

    /** Three times in a row: each counts once, as that reason alone. */
    private static void counted(String words, int reason, Check.Call call) {
        EDGES.edge(33, words, c -> {
            CrownTwo x = allFull();
            for (int times = 1; times <= 3; times++) {
                call.on(x);
                for (int what = 0; what < 3; what++) {
                    c.due("status(" + what + ")", x.status(what), what == reason ? times : 0);
                }
            }
        });
    }

    private static void statusNotCounted() {
        notCounted("a FAULT", x -> x.read());
        notCounted("NONE of keep", x -> x.keep(60));
        notCounted("NONE of BEST PAIR", x -> x.pairs(0));
        notCounted("status itself", x -> x.status(0));
        notCounted("0 of forget", x -> x.forget());
        notCounted("0 of clear", x -> x.clear());
        EDGES.tells(33, "not counted: NONE of friends", () -> Courts.pairOf(50, 1, 20, 1, 20), x -> x.friends(), -1);
        EDGES.tells(33, "not counted: -5 of most", () -> Courts.plainPair(50), x -> x.most(1, 1), -5);
        EDGES.tells(33, "not counted: -2 that makes tells of TEMPER 5, a JOKER", () -> Courts.pairOf(50, 2, 5, 0, 0), x -> x.makes(0), -2);
        EDGES.tells(33, "not counted: -3 that makes tells of TEMPER 0, a JOKER", () -> Courts.pairOf(50, 2, 0, 0, 0), x -> x.makes(0), -3);
        EDGES.tells(33, "not counted: -4 that makes tells of TEMPER 5, a FORGIVER", () -> Courts.pairOf(50, 5, 5, 0, 0), x -> x.makes(0), -4);
        EDGES.edge(33, "STATUS goes on as long as the object is used", c -> {
            CrownTwo x = new CrownTwo();
            for (int i = 0; i < 500; i++) x.undo();
            c.due("status(1)", x.status(1), 500);
        });
    }

    private static void notCounted(String words, Check.Call call) {
        EDGES.edge(33, "not counted: " + words, c -> {
            CrownTwo x = new CrownTwo();
            call.on(x);
            for (int what = 0; what < 3; what++) c.due("status(" + what + ")", x.status(what), 0);
        });
    }

    private static void count() {
        Supplier<CrownTwo> most = () -> {
            CrownTwo x = allFull();
            x.pair(4, 5);
            for (int act = 0; act < 8; act++) x.ask(act);
            x.day(60);
            for (int i = 0; i < 5; i++) x.feed(20);
            return x;
        };
        int[] due = {6, 60, 99, 8, 6, 8, 150};
        String[] names = {"HEIRS", "the DAY", "WARMTH", "ACTS that are DONE", "NOTES", "that may be undone", "bytes of THE TEXT"};
        for (int what = 0; what < 7; what++) {
            int w = what;
            EDGES.tells(34, "the most " + names[what], most, x -> x.count(w), due[what]);
            EDGES.tells(34, "the least " + names[what], () -> Courts.at(0, 0), x -> x.count(w), 0);
        }
    }

    private static void digestOfEach() {
        differs("an HEIR's KIND", () -> oneHeir(1, 0, 0, 0));
        differs("an HEIR's LIKES", () -> oneHeir(0, 1, 0, 0));
        differs("an HEIR's HATES", () -> oneHeir(0, 0, 1, 0));
        differs("an HEIR's TEMPER", () -> oneHeir(0, 0, 0, 1));
        EDGES.tells(35, "THE PAIR: NONE is -1, each", () -> Courts.at(0, 0), x -> x.digest(),
                Check.fold(0, 0, 0, 0, 0, 0, 0, 0, -1, -1, 0, 1));
        EDGES.tells(35, "THE PAIR: the first, then the second", () -> {
            CrownTwo x = Courts.plainPair(0);
            x.pair(1, 0);
            return x;
        }, x -> x.digest(), Check.fold(2, 0, 0, 0, 0, 2, 0, 0, 1, 0, 0, 0, 0, 0, 0, 0, 0, 0, 0, 1));
        EDGES.tells(35, "DONE as bits: all", () -> {
            CrownTwo x = Courts.plainPair(0);
            for (int act = 0; act < 8; act++) x.ask(act);
            return x;
        }, x -> x.digest(), Check.fold(2, 0, 0, 8, 0, 8, 0, 255, 0, 1, 0, 0, 0, 0, 0, 0, 0, 0, 0, 1));
        EDGES.tells(35, "THE FRACTION: above, then below", () -> {
            CrownTwo x = Courts.plainPair(0);
            x.slips(0, 4);
            return x;
        }, x -> x.digest(), Check.fold(2, 0, 0, 0, 0, 1, 0, 0, 0, 1, 0, 0, 0, 0, 0, 0, 0, 0, 9, 25));
        EDGES.edge(35, "THE TEXT's bytes, IMAGES, STATUS are not in it", c -> {
            CrownTwo x = Courts.at(5, 0), y = Courts.at(5, 0);
            x.type(65);
            y.type(66);
            y.image(0);
            y.day(0);
            c.due("digest", x.digest(), y.digest());
        });
    }

    private static CrownTwo oneHeir(int kind, int like, int hate, int temper) {
        CrownTwo x = new CrownTwo();
        x.heir(kind, like, hate, temper);
        return x;
    }

    private static void differs(String words, Supplier<CrownTwo> made) {
        EDGES.edge(35, "in it: " + words, c ->
                c.due("alike", made.get().digest() == oneHeir(0, 0, 0, 0).digest() ? 1 : 0, 0));
    }

    /** All values, reckoned without a bound and cut to 64 bits at the end. */
    private static void digestWraps() {
        EDGES.edge(35, "far above a long: 6 HEIRS, 6 NOTES", c -> {
            CrownTwo x = new CrownTwo();
            List<Integer> values = new ArrayList<>(List.of(6, 0, 50, 0, 6, 0, 0, 0, -1, -1));
            int[][] heirs = {{0, 255, 1, 20}, {1, 254, 2, 19}, {2, 253, 3, 18}, {3, 252, 4, 17}, {4, 251, 5, 16}, {5, 250, 6, 15}};
            for (int[] h : heirs) {
                x.heir(h[0], h[1], h[2], h[3]);
                for (int v : h) values.add(v);
            }
            for (int i = 0; i < 6; i++) {
                int[] note = {5 - i, 7 - i, 99 - i, 98 - i, i % 2};
                x.note(note[0], note[1], note[2], note[3], note[4]);
                for (int v : note) values.add(v);
            }
            values.addAll(List.of(0, 1));
            BigInteger h = BigInteger.valueOf(1249);
            for (int v : values) h = h.multiply(BigInteger.valueOf(31)).add(BigInteger.valueOf(v));
            c.due("more than 64 bits", h.bitLength() > 64 ? 1 : 0, 1);
            c.due("digest", x.digest(), h.longValue());
        });
    }
}
