import java.util.function.Supplier;

/** Promises 7 to 13, their boundary cases: pair, ask, day, feed, undo, of, makes. */
public final class DaysEdgesTest {
    private static final Edges EDGES = new Edges("DaysEdgesTest", 7, 13);
    private static final int BOTH = 3, FIRST = 1, SECOND = 2, NEITHER = 0;

    public static void main(String[] args) {
        pairsTold();
        askedWarmth();
        askedDone();
        askedOtherwise();
        daysAlone();
        daysOfAPair();
        dayNumbers();
        fed();
        undoneEach();
        undoneEight();
        undoneNever();
        of();
        makes();
        EDGES.end();
    }

    private static void pairsTold() {
        EDGES.bad(7, "BAD: alike, 0", () -> Courts.heirs(2), x -> x.pair(0, 0));
        EDGES.bad(7, "BAD: alike, the last", () -> Courts.heirs(6), x -> x.pair(5, 5));
        EDGES.bad(7, "BAD: alike, one HEIR alone", () -> Courts.heirs(1), x -> x.pair(0, 0));
        EDGES.bad(7, "BAD: alike, and none there", CrownTwo::new, x -> x.pair(0, 0));
        EDGES.bad(7, "BAD: alike, and NONE", () -> Courts.heirs(2), x -> x.pair(-1, -1));
        EDGES.bad(7, "BAD: a PAIR that is told stays", () -> Courts.plainPair(20), x -> x.pair(1, 1));
        EDGES.edge(7, "the least and the most: 0 and 5", c -> {
            CrownTwo x = Courts.heirs(6);
            c.due("pair(0, 5)", x.pair(0, 5), 1);
            c.due("the first", x.of(0, 4), 1);
            c.due("the second", x.of(5, 4), 2);
        });
        EDGES.edge(7, "told the other way round: the sides change", c -> {
            CrownTwo x = Courts.plainPair(20);
            c.due("pair(1, 0)", x.pair(1, 0), 1);
            c.due("the first", x.of(1, 4), 1);
            c.due("the second", x.of(0, 4), 2);
        });
        EDGES.edge(7, "told again as it is: it may be undone, too", c -> {
            CrownTwo x = Courts.plainPair(20);
            c.due("pair(0, 1)", x.pair(0, 1), 1);
            c.due("count(5)", x.count(5), 2);
            x.undo();
            c.due("still a PAIR", x.of(1, 4), 2);
        });
        EDGES.edge(7, "WARMTH, the DAY, DONE stay", c -> {
            CrownTwo x = Courts.plainPair(50);
            x.ask(6);
            x.day(3);
            x.heir(0, 0, 0, 0);
            x.pair(2, 0);
            int[] due = {3, 3, 42, 1};
            for (int what = 0; what < 4; what++) c.due("count(" + what + ")", x.count(what), due[what]);
        });
    }

    private static void askedWarmth() {
        int[][] rows = {
            {BOTH, 0, 0}, {BOTH, 1, 0}, {BOTH, 2, 0}, {BOTH, 3, 1}, {BOTH, 99, 97},
            {FIRST, 0, 5}, {FIRST, 93, 98}, {FIRST, 94, 99}, {FIRST, 95, 99}, {FIRST, 99, 99},
            {SECOND, 0, 5}, {SECOND, 93, 98}, {SECOND, 94, 99}, {SECOND, 95, 99}, {SECOND, 99, 99},
            {NEITHER, 0, 1}, {NEITHER, 97, 98}, {NEITHER, 98, 99}, {NEITHER, 99, 99}};
        String[] names = {"none LIFTS: 1 more", "the first alone: 5 more", "the second alone: 5 more", "both: 2 less"};
        for (int[] row : rows) {
            EDGES.edge(8, names[row[0]] + ", from " + row[1] + " (0 to 99 kept)", c -> {
                CrownTwo x = lifters(row[0], row[1]);
                c.due("ask(4)", x.ask(4), row[0]);
                c.due("WARMTH", x.count(2), row[2]);
                c.due("DONE", x.count(3), row[0] == BOTH ? 1 : 0);
                c.due("the DAY", x.count(1), 0);
                c.due("may be undone", x.count(5), 2);
            });
        }
    }

    /** A pair of which just these lift for act 4, whatever WARMTH is: the proud ones do for what they like alone. */
    private static CrownTwo lifters(int who, int warmth) {
        CrownTwo x = new CrownTwo();
        x.court(warmth);
        x.heir(3, (who & FIRST) != 0 ? 16 : 0, 0, 0);
        x.heir(3, (who & SECOND) != 0 ? 16 : 0, 0, 0);
        x.pair(0, 1);
        return x;
    }

    private static void askedDone() {
        Supplier<CrownTwo> done = () -> {
            CrownTwo x = Courts.plainPair(20);
            x.ask(4);
            return x;
        };
        EDGES.no(8, "NO: it is DONE", done, x -> x.ask(4));
        EDGES.no(8, "NO: it is DONE, by an other PAIR", () -> {
            CrownTwo x = done.get();
            x.heir(0, 0, 0, 0);
            x.pair(2, 0);
            return x;
        }, x -> x.ask(4));
        EDGES.no(8, "NO: it is DONE, on a later DAY", () -> {
            CrownTwo x = done.get();
            x.day(60);
            return x;
        }, x -> x.ask(4));
        for (int act = 0; act < 8; act++) {
            int a = act;
            EDGES.no(8, "NO: all 8 are DONE, " + act + " too", () -> {
                CrownTwo x = Courts.plainPair(40);
                for (int i = 0; i < 8; i++) x.ask(i);
                return x;
            }, x -> x.ask(a));
        }
        EDGES.edge(8, "all 8 can be DONE", c -> {
            CrownTwo x = Courts.plainPair(40);
            for (int act = 7; act >= 0; act--) c.due("ask(" + act + ")", x.ask(act), BOTH);
            c.due("count(3)", x.count(3), 8);
            c.due("WARMTH", x.count(2), 24);
        });
        EDGES.edge(8, "undone: it can be asked again", c -> {
            CrownTwo x = done.get();
            x.undo();
            c.due("ask(4)", x.ask(4), BOTH);
        });
    }

    private static void askedOtherwise() {
        EDGES.edge(8, "asked in vain: it can be asked again", c -> {
            CrownTwo x = lifters(NEITHER, 20);
            for (int i = 1; i <= 3; i++) c.due("ask(4), WARMTH " + (20 + i), x.ask(4) + x.count(2), 20 + i);
        });
        EDGES.edge(8, "they LIFT by WARMTH as it is ahead of the asking: 59", c -> {
            CrownTwo x = Courts.plainPair(59);
            c.due("ask(0) at 59", x.ask(0), BOTH);
            c.due("ask(1) at 57", x.ask(1), BOTH);
        });
        EDGES.edge(8, "they LIFT by WARMTH as it is ahead of the asking: 60", c -> {
            CrownTwo x = Courts.plainPair(60);
            c.due("ask(0) at 60", x.ask(0), NEITHER);
            c.due("ask(0) at 61", x.ask(0), NEITHER);
        });
        EDGES.edge(8, "the least and the greatest ACT are apart", c -> {
            CrownTwo x = Courts.plainPair(40);
            x.ask(0);
            x.ask(7);
            c.due("DONE", x.count(3), 2);
            c.due("digest", x.digest(), Check.fold(2, 0, 36, 2, 0, 3, 0, 129, 0, 1, 0, 0, 0, 0, 0, 0, 0, 0, 0, 1));
        });
    }

    private static void daysAlone() {
        int[][] rows = {{0, 1, 0}, {1, 1, 0}, {2, 1, 0}, {3, 1, 1}, {99, 1, 97}, {99, 49, 1}, {99, 50, 0}, {99, 60, 0}};
        for (int[] row : rows) {
            EDGES.edge(9, "no PAIR: less 2 alone, from " + row[0] + " by " + row[1] + " DAYS (0 kept)", c -> {
                CrownTwo x = new CrownTwo();
                x.court(row[0]);
                c.due("day", x.day(row[1]), row[2]);
                c.due("WARMTH", x.count(2), row[2]);
                c.due("the DAY", x.count(1), row[1]);
            });
        }
        EDGES.edge(9, "HEIRS who are not THE PAIR make nothing", c -> {
            CrownTwo x = new CrownTwo();
            for (int i = 0; i < 6; i++) x.heir(1, 0, 0, 20);
            c.due("day(1)", x.day(1), 48);
            x.pair(0, 1);
            c.due("day(1) of a PAIR alone: 5 and 5 less 2", x.day(1), 56);
        });
    }

    /** From WARMTH, by the kinds and tempers of both, so many DAYS: what is due. */
    private static void daysOfAPair() {
        int[][] rows = {
            {91, 1, 20, 1, 20, 1, 99}, {90, 1, 20, 1, 20, 1, 98}, {92, 1, 20, 1, 20, 1, 99}, {99, 1, 20, 1, 20, 60, 99},
            {0, 1, 20, 1, 20, 12, 96}, {0, 1, 20, 1, 20, 13, 99}, {0, 1, 20, 1, 20, 60, 99},
            {14, 5, 0, 5, 0, 1, 0}, {15, 5, 0, 5, 0, 1, 1}, {13, 5, 0, 5, 0, 1, 0}, {99, 5, 0, 5, 0, 7, 1},
            {99, 5, 0, 5, 0, 8, 0}, {0, 5, 0, 5, 0, 60, 0},
            {50, 0, 5, 0, 5, 60, 50}, {50, 0, 5, 0, 4, 1, 49}, {50, 4, 4, 4, 5, 1, 49}, {50, 2, 20, 2, 20, 1, 50}};
        for (int[] r : rows) {
            EDGES.edge(9, "as both make it, less 2, 0 to 99 kept: " + java.util.Arrays.toString(r), c -> {
                CrownTwo x = Courts.pairOf(r[0], r[1], r[2], r[3], r[4]);
                c.due("then", x.then(r[5]), r[6]);
                c.due("day", x.day(r[5]), r[6]);
                c.due("the DAY", x.count(1), r[5]);
            });
        }
        EDGES.edge(9, "kept at 99 each DAY: then it goes down from 99", c -> {
            CrownTwo x = Courts.pairOf(90, 1, 20, 5, 0);
            x.heir(1, 0, 0, 20);
            x.pair(0, 2);
            c.due("8 more a DAY", x.day(60), 99);
            x.pair(0, 1);
            c.due("5 and -6 less 2", x.day(1), 96);
        });
    }

    private static void dayNumbers() {
        EDGES.edge(9, "n DAYS are together one that may be undone", c -> {
            CrownTwo x = Courts.plainPair(90);
            x.day(40);
            c.due("count(5)", x.count(5), 2);
            c.due("undo()", x.undo(), 0);
            c.due("WARMTH", x.count(2), 90);
        });
        EDGES.edge(9, "60 at once are as 60 one by one", c -> {
            CrownTwo x = Courts.pairOf(99, 0, 5, 0, 0), y = Courts.pairOf(99, 0, 5, 0, 0);
            x.day(60);
            for (int i = 0; i < 60; i++) y.day(1);
            c.due("WARMTH", x.count(2), 39);
            c.due("WARMTH one by one", y.count(2), 39);
            c.due("the DAY", x.count(1), y.count(1));
        });
        EDGES.edge(9, "the DAY goes on as long as the object is used", c -> {
            CrownTwo x = new CrownTwo();
            for (int i = 1; i <= 510; i++) x.day(60);
            c.due("the DAY", x.count(1), 30600);
        });
        EDGES.edge(9, "DONE and THE PAIR stay", c -> {
            CrownTwo x = Courts.plainPair(40);
            x.ask(1);
            x.day(60);
            c.due("DONE", x.count(3), 1);
            c.due("the first", x.of(0, 4), 1);
        });
    }

    private static void fed() {
        int[][] rows = {{0, 1, 1}, {0, 20, 20}, {78, 20, 98}, {79, 20, 99}, {80, 20, 99}, {98, 1, 99}, {99, 1, 99}, {99, 20, 99}};
        for (int[] row : rows) {
            EDGES.edge(10, "from " + row[0] + " by " + row[1] + " (99 kept)", c -> {
                CrownTwo x = new CrownTwo();
                x.court(row[0]);
                c.due("feed", x.feed(row[1]), row[2]);
                c.due("WARMTH", x.count(2), row[2]);
                c.due("the DAY", x.count(1), 0);
            });
        }
        EDGES.edge(10, "99 kept: it may be undone all the same", c -> {
            CrownTwo x = new CrownTwo();
            x.court(99);
            x.feed(20);
            c.due("count(5)", x.count(5), 1);
            c.due("undo()", x.undo(), 0);
            c.due("WARMTH", x.count(2), 99);
        });
        EDGES.edge(10, "99 kept: undone, it is as ahead of it, not 20 less", c -> {
            CrownTwo x = new CrownTwo();
            x.court(95);
            x.feed(20);
            x.undo();
            c.due("WARMTH", x.count(2), 95);
        });
    }

    private static void undoneEach() {
        EDGES.edge(11, "the last ACT asked, DONE", c -> undone(c, x -> x.ask(0)));
        EDGES.edge(11, "the last ACT asked, in vain", c -> undone(c, x -> x.ask(1)));
        EDGES.edge(11, "DAYS gone by", c -> undone(c, x -> x.day(60)));
        EDGES.edge(11, "PAIR told", c -> undone(c, x -> x.pair(1, 2)));
        EDGES.edge(11, "WARMTH fed", c -> undone(c, x -> x.feed(20)));
        EDGES.edge(11, "THE PAIR as ahead: none", c -> {
            CrownTwo x = Courts.plainPair(20);
            x.undo();
            c.due("of(0, 4)", x.of(0, 4), 0);
            c.due("ask(0)", x.ask(0), CrownTwo.NO);
        });
        EDGES.edge(11, "the DAY then: as it is behind the undoing", c -> {
            CrownTwo x = new CrownTwo();
            x.day(7);
            x.day(9);
            x.feed(1);
            c.due("a feeding", x.undo(), 16);
            c.due("9 DAYS", x.undo(), 7);
            c.due("7 DAYS", x.undo(), 0);
        });
    }

    /** Undone, all that UNDO brings back is as ahead of the call, and one less may be undone. */
    private static void undone(Check c, Check.Call call) {
        CrownTwo x = Courts.heirs(2);
        x.heir(0, 0, 2, 0);
        x.pair(2, 0);
        x.day(3);
        long before = x.digest();
        call.on(x);
        c.due("changed", x.digest() == before ? 1 : 0, 0);
        c.due("may be undone", x.count(5), 3);
        c.due("undo()", x.undo(), 3);
        c.due("as ahead of it", x.digest(), before);
        c.due("may be undone still", x.count(5), 2);
    }

    private static void undoneEight() {
        for (int many : new int[] {1, 7, 8, 9, 16, 17, 30}) {
            int most = Math.min(many, 8);
            EDGES.edge(11, "8 at most: behind " + many + " it is " + most, c -> {
                CrownTwo x = new CrownTwo();
                x.court(99);
                for (int i = 0; i < many; i++) x.day(1);
                c.due("count(5)", x.count(5), most);
                for (int i = 1; i <= most; i++) {
                    c.due("undo " + i, x.undo(), many - i);
                    c.due("WARMTH", x.count(2), 99 - 2 * (many - i));
                    c.due("may be undone", x.count(5), most - i);
                }
                c.due("one more", x.undo(), CrownTwo.NO);
                c.due("the DAY stays", x.count(1), many - most);
            });
        }
        EDGES.edge(11, "8 at most: undone to the middle, then others come", c -> {
            CrownTwo x = new CrownTwo();
            for (int i = 0; i < 10; i++) x.day(1);
            for (int i = 0; i < 5; i++) x.undo();
            for (int i = 0; i < 6; i++) x.feed(1);
            c.due("count(5)", x.count(5), 8);
            for (int i = 0; i < 6; i++) c.due("a feeding", x.undo(), 5);
            c.due("WARMTH on DAY 5", x.count(2), 40);
            c.due("the DAY ahead", x.undo(), 4);
            c.due("the DAY ahead of that", x.undo(), 3);
            c.due("no more", x.undo(), CrownTwo.NO);
        });
    }

    private static void undoneNever() {
        EDGES.no(11, "NO: none may be, at first", CrownTwo::new, x -> x.undo());
        EDGES.no(11, "NO: all are undone", () -> {
            CrownTwo x = Courts.plainPair(20);
            x.undo();
            return x;
        }, x -> x.undo());
        EDGES.no(11, "NO: behind an HEIR that comes", () -> {
            CrownTwo x = Courts.plainPair(20);
            x.heir(0, 0, 0, 0);
            return x;
        }, x -> x.undo());
        EDGES.no(11, "NO: behind a court told", () -> {
            CrownTwo x = Courts.plainPair(20);
            x.court(3);
            return x;
        }, x -> x.undo());
        EDGES.no(11, "NO: behind a court read", () -> {
            CrownTwo x = Courts.plainPair(20);
            Check.read(x, "court 1;");
            return x;
        }, x -> x.undo());
        EDGES.no(11, "NO: behind an IMAGE of a time when none might be", () -> {
            CrownTwo x = new CrownTwo();
            x.image(0);
            x.day(1);
            x.from(0);
            return x;
        }, x -> x.undo());
        EDGES.edge(11, "a refused call is none that may be undone", c -> {
            CrownTwo x = Courts.plainPair(20);
            x.ask(0);
            int may = x.count(5);
            x.ask(0);
            x.ask(8);
            x.day(0);
            x.day(61);
            x.feed(0);
            x.feed(21);
            x.pair(0, 0);
            x.pair(0, 2);
            c.due("count(5)", x.count(5), may);
        });
        EDGES.edge(11, "NOTES, THE TEXT, THE FRACTION, IMAGES are not undone", c -> {
            CrownTwo x = Courts.plainPair(20);
            x.feed(1);
            x.note(0, 0, 0, 0, 0);
            x.type(99);
            x.slips(0, 1);
            x.image(0);
            c.due("count(5)", x.count(5), 2);
            x.undo();
            c.due("NOTES", x.count(4), 1);
            c.due("THE TEXT", x.count(6), 1);
            c.due("THE FRACTION", x.part(0), 81);
            c.due("IMAGES", x.from(0), 1);
            c.due("WARMTH of the IMAGE", x.count(2), 21);
        });
        EDGES.edge(11, "forgotten NOTES do not come back", c -> {
            CrownTwo x = Courts.heirs(1);
            x.note(0, 0, 0, 0, 0);
            x.feed(1);
            x.forget();
            x.undo();
            c.due("NOTES", x.count(4), 0);
        });
    }

    private static void of() {
        int[][] heirs = {{0, 0, 255, 20}, {5, 255, 0, 0}, {2, 170, 85, 7}};
        for (int p = 0; p < 3; p++) {
            for (int what = 0; what < 4; what++) {
                int heir = p, w = what;
                EDGES.tells(12, "of(" + p + ", " + what + ")", () -> three(heirs), x -> x.of(heir, w), heirs[p][what]);
            }
        }
        EDGES.tells(12, "of THE PAIR: 0 not, for there is none", () -> Courts.heirs(1), x -> x.of(0, 4), 0);
        EDGES.tells(12, "of THE PAIR: 1 the first", () -> three(heirs), x -> x.of(2, 4), 1);
        EDGES.tells(12, "of THE PAIR: 2 the second", () -> three(heirs), x -> x.of(0, 4), 2);
        EDGES.tells(12, "of THE PAIR: 0 not", () -> three(heirs), x -> x.of(1, 4), 0);
    }

    private static CrownTwo three(int[][] heirs) {
        CrownTwo x = new CrownTwo();
        for (int[] h : heirs) x.heir(h[0], h[1], h[2], h[3]);
        x.pair(2, 0);
        return x;
    }

    private static void makes() {
        int[] tempers = {0, 4, 5, 9, 10, 14, 15, 19, 20};
        int[][] due = {
            {0, 0, 1, 1, 2, 2, 3, 3, 4}, {1, 1, 2, 2, 3, 3, 4, 4, 5}, {-3, -3, -2, -2, -1, -1, 0, 0, 1},
            {0, 0, 1, 1, 2, 2, 3, 3, 4}, {0, 0, 1, 1, 1, 1, 2, 2, 2}, {-6, -6, -4, -4, -2, -2, 0, 0, 2}};
        String[] kinds = {"PLAIN", "SULKY", "JOKER", "PROUD", "TIRED", "FORGIVER"};
        for (int kind = 0; kind < 6; kind++) {
            for (int i = 0; i < tempers.length; i++) {
                int k = kind, temper = tempers[i];
                EDGES.tells(13, kinds[kind] + " of TEMPER " + temper, () -> {
                    CrownTwo x = Courts.heirs(1);
                    x.heir(k, 0, 0, temper);
                    return x;
                }, x -> x.makes(1), due[kind][i]);
            }
        }
        EDGES.refused(13, "BAD: -100, no HEIRS", CrownTwo::new, x -> x.makes(0), -100, 0);
        EDGES.tells(13, "the same for one who is not of THE PAIR", () -> three(new int[][] {{0, 0, 0, 0}, {5, 0, 0, 0}, {1, 0, 0, 0}}),
                x -> x.makes(1), -6);
    }
}
