import java.util.function.Supplier;

/** Promises 20 and 21, their boundary cases: lasts, pairs. */
public final class PairsEdgesTest {
    private static final Edges EDGES = new Edges("PairsEdgesTest", 20, 21);

    public static void main(String[] args) {
        lasts();
        bestPair();
        stuck();
        EDGES.end();
    }

    private static void lasts() {
        EDGES.bad(20, "BAD: alike", () -> Courts.heirs(2), x -> x.lasts(1, 1));
        EDGES.bad(20, "BAD: alike, the last", () -> Courts.heirs(6), x -> x.lasts(5, 5));
        EDGES.bad(20, "BAD: alike, and THE PAIR stays", () -> Courts.plainPair(30), x -> x.lasts(0, 0));
        EDGES.bad(20, "BAD: NONE, both", () -> Courts.heirs(2), x -> x.lasts(-1, -1));
        lasting("0: they are FRIENDS now", 9, 0, 0, 0, 0, 0);
        lasting("0: WARMTH 0", 0, 1, 20, 1, 20, 0);
        lasting("0: now, though it would grow", 9, 1, 20, 1, 20, 0);
        lasting("1: from 10 by 2", 10, 0, 0, 0, 0, 1);
        lasting("1: from 11 by 2", 11, 0, 0, 0, 0, 1);
        lasting("2: from 12 by 2", 12, 0, 0, 0, 0, 2);
        lasting("90: from 99 by 1", 99, 0, 5, 0, 0, 90);
        lasting("89: from 98 by 1", 98, 0, 0, 0, 5, 89);
        lasting("91: it stays", 99, 0, 5, 0, 5, 91);
        lasting("91: it stays at 10", 10, 0, 5, 0, 5, 91);
        lasting("91: it grows", 10, 1, 20, 1, 20, 91);
        lasting("7: from 99 by 14", 99, 5, 0, 5, 0, 7);
        EDGES.tells(20, "without a PAIR", () -> Courts.heirs(6), x -> x.lasts(0, 5), 21);
        EDGES.tells(20, "were they THE PAIR: another is", () -> {
            CrownTwo x = Courts.pairOf(50, 1, 20, 1, 20);
            x.heir(5, 0, 0, 0);
            x.heir(5, 0, 0, 0);
            return x;
        }, x -> x.lasts(2, 3), 3);
        EDGES.tells(20, "from WARMTH as it is, on a later DAY", () -> {
            CrownTwo x = Courts.plainPair(50);
            x.day(15);
            return x;
        }, x -> x.lasts(1, 0), 6);
    }

    private static void lasting(String words, int warmth, int kind, int temper, int otherKind, int otherTemper, int days) {
        Supplier<CrownTwo> made = () -> {
            CrownTwo x = Courts.pairOf(warmth, kind, temper, otherKind, otherTemper);
            x.undo();
            return x;
        };
        EDGES.tells(20, words, made, x -> x.lasts(0, 1), days);
        EDGES.tells(20, words + ", the other way round", made, x -> x.lasts(1, 0), days);
    }

    private static void bestPair() {
        EDGES.tells(21, "none: no HEIRS", CrownTwo::new, x -> x.pairs(0), CrownTwo.NONE);
        EDGES.tells(21, "none: less than two HEIRS", () -> Courts.heirs(1), x -> x.pairs(0), CrownTwo.NONE);
        EDGES.tells(21, "two HEIRS: 10 p and q is 1", () -> Courts.heirs(2), x -> x.pairs(0), 1);
        EDGES.tells(21, "of like ones the least", () -> Courts.heirs(6), x -> x.pairs(0), 1);
        EDGES.tells(21, "of like ones the least: all 0, FRIENDS now", () -> tempers(9, 0, 5, 10, 15, 20, 20), x -> x.pairs(0), 1);
        EDGES.tells(21, "of like ones the least: all 91", () -> tempers(50, 20, 20, 20, 20, 20, 20), x -> x.pairs(0), 1);
        EDGES.tells(21, "the greatest: 4 and 5", () -> tempers(50, 0, 0, 0, 0, 5, 5), x -> x.pairs(0), 45);
        EDGES.tells(21, "the first and the last", () -> tempers(50, 5, 0, 0, 0, 0, 9), x -> x.pairs(0), 5);
        EDGES.tells(21, "of like ones the least, not the first heirs", () -> tempers(50, 0, 0, 10, 0, 0, 0), x -> x.pairs(0), 2);
        EDGES.tells(21, "of like ones at 91 the least", () -> tempers(50, 0, 5, 0, 15, 5, 20), x -> x.pairs(0), 3);
        EDGES.tells(21, "THE PAIR itself does not matter", () -> {
            CrownTwo x = tempers(50, 0, 0, 5, 5);
            x.pair(0, 1);
            return x;
        }, x -> x.pairs(0), 23);
    }

    private static CrownTwo tempers(int warmth, int... tempers) {
        CrownTwo x = new CrownTwo();
        x.court(warmth);
        for (int temper : tempers) x.heir(0, 0, 0, temper);
        return x;
    }

    private static void stuck() {
        EDGES.tells(21, "STUCK: no HEIRS", CrownTwo::new, x -> x.pairs(1), 0);
        EDGES.tells(21, "STUCK: one HEIR", () -> Courts.heirs(1), x -> x.pairs(1), 0);
        EDGES.tells(21, "STUCK: two, at 59 none", () -> tempers(59, 0, 0), x -> x.pairs(1), 0);
        EDGES.tells(21, "STUCK: two, at 60 one", () -> tempers(60, 0, 0), x -> x.pairs(1), 1);
        EDGES.tells(21, "STUCK: all 15 pairs of six", () -> tempers(60, 0, 0, 0, 0, 0, 0), x -> x.pairs(1), 15);
        EDGES.tells(21, "STUCK: none of 15", () -> tempers(59, 0, 0, 0, 0, 0, 0), x -> x.pairs(1), 0);
        EDGES.tells(21, "STUCK: the least ACT alone is enough", () -> likers(1), x -> x.pairs(1), 0);
        EDGES.tells(21, "STUCK: the greatest ACT alone is enough", () -> likers(128), x -> x.pairs(1), 0);
        EDGES.tells(21, "STUCK: DONE or not", () -> {
            CrownTwo x = likers(128);
            x.pair(0, 1);
            x.ask(7);
            return x;
        }, x -> x.pairs(1), 0);
        EDGES.tells(21, "STUCK: who like other ACTS", () -> {
            CrownTwo x = likers(64);
            x.heir(3, 128, 0, 0);
            return x;
        }, x -> x.pairs(1), 2);
        EDGES.tells(21, "STUCK: now, on a 7th DAY", () -> tired(7), x -> x.pairs(1), 0);
        EDGES.tells(21, "STUCK: now, the DAY ahead of it", () -> tired(6), x -> x.pairs(1), 1);
        EDGES.tells(21, "STUCK: now, the DAY behind it", () -> tired(8), x -> x.pairs(1), 1);
    }

    /** Two proud ones who like these, at 99. */
    private static CrownTwo likers(int acts) {
        CrownTwo x = new CrownTwo();
        x.court(99);
        x.heir(3, acts, 0, 0);
        x.heir(3, acts, 0, 0);
        return x;
    }

    private static CrownTwo tired(int day) {
        CrownTwo x = Courts.at(99, day);
        x.heir(4, 0, Courts.ALL, 0);
        x.heir(4, 0, Courts.ALL, 0);
        return x;
    }
}
