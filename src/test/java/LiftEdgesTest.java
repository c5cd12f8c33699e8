import java.util.function.Supplier;

/** Promises 14 to 19, their boundary cases: lift, both, friends, then, most, keep. */
public final class LiftEdgesTest {
    private static final Edges EDGES = new Edges("LiftEdgesTest", 14, 19);
    private static final int LIKED = 0, HATED = 1, IN_NONE = 2, IN_BOTH = 3;

    public static void main(String[] args) {
        plainAndJoker();
        sulky();
        proud();
        tired();
        forgiver();
        liftOtherwise();
        both();
        friends();
        then();
        mostDone();
        mostWays();
        mostRefused();
        keep();
        EDGES.end();
    }

    private static void plainAndJoker() {
        for (int kind = 0; kind <= 2; kind += 2) {
            lifts(kind, LIKED, 0, 1, true);
            lifts(kind, LIKED, 99, 1, true);
            lifts(kind, HATED, 0, 1, false);
            lifts(kind, HATED, 29, 1, false);
            lifts(kind, IN_NONE, 0, 1, true);
            lifts(kind, IN_NONE, 59, 1, true);
            lifts(kind, IN_NONE, 60, 1, false);
            lifts(kind, IN_NONE, 60, 7, false);
            lifts(kind, IN_BOTH, 59, 1, true);
            lifts(kind, IN_BOTH, 60, 1, false);
        }
    }

    private static void sulky() {
        lifts(1, LIKED, 79, 1, true);
        lifts(1, LIKED, 80, 1, false);
        lifts(1, LIKED, 80, 7, false);
        lifts(1, LIKED, 99, 0, false);
        lifts(1, HATED, 0, 1, false);
        lifts(1, IN_NONE, 59, 1, true);
        lifts(1, IN_NONE, 60, 1, false);
        lifts(1, IN_BOTH, 59, 1, true);
        lifts(1, IN_BOTH, 60, 1, false);
    }

    private static void proud() {
        lifts(3, LIKED, 0, 1, true);
        lifts(3, LIKED, 99, 1, true);
        lifts(3, HATED, 0, 0, false);
        lifts(3, IN_NONE, 0, 0, false);
        lifts(3, IN_NONE, 59, 7, false);
        lifts(3, IN_BOTH, 0, 0, false);
    }

    private static void tired() {
        lifts(4, LIKED, 79, 1, true);
        lifts(4, LIKED, 80, 1, false);
        lifts(4, LIKED, 80, 7, true);
        lifts(4, IN_NONE, 59, 1, true);
        lifts(4, IN_NONE, 60, 1, false);
        lifts(4, IN_NONE, 60, 0, true);
        lifts(4, IN_BOTH, 60, 6, false);
        for (int day : new int[] {0, 7, 14, 56, 98, 700}) lifts(4, HATED, 99, day, true);
        for (int day : new int[] {1, 6, 8, 13, 15, 55, 57, 97, 99, 699, 701}) lifts(4, HATED, 0, day, false);
    }

    private static void forgiver() {
        lifts(5, LIKED, 0, 1, true);
        lifts(5, LIKED, 99, 1, true);
        lifts(5, HATED, 0, 1, true);
        lifts(5, HATED, 29, 1, true);
        lifts(5, HATED, 30, 1, false);
        lifts(5, HATED, 30, 7, false);
        lifts(5, IN_NONE, 29, 1, true);
        lifts(5, IN_NONE, 59, 1, true);
        lifts(5, IN_NONE, 60, 1, false);
        lifts(5, IN_BOTH, 59, 1, true);
        lifts(5, IN_BOTH, 60, 1, false);
    }

    /** One of that kind, as the first and as the second, beside a plain one who hates all. */
    private static void lifts(int kind, int act, int warmth, int day, boolean lifting) {
        String[] hearts = {"likes", "hates", "has in neither", "has in both"};
        String words = "KIND " + kind + ", an ACT that one " + hearts[act] + ", WARMTH " + warmth + ", DAY " + day;
        Supplier<CrownTwo> made = () -> {
            CrownTwo x = Courts.at(warmth, day);
            x.heir(kind, 1 << LIKED | 1 << IN_BOTH, 1 << HATED | 1 << IN_BOTH, 0);
            x.heir(0, 0, Courts.ALL, 0);
            x.pair(0, 1);
            return x;
        };
        EDGES.tells(14, words + ", the first", made, x -> x.lift(act), lifting ? 1 : 0);
        EDGES.tells(14, words + ", the second", () -> {
            CrownTwo x = made.get();
            x.pair(1, 0);
            return x;
        }, x -> x.lift(act), lifting ? 2 : 0);
    }

    private static void liftOtherwise() {
        EDGES.tells(14, "both would: 3", () -> Courts.plainPair(59), x -> x.lift(7), 3);
        EDGES.tells(14, "none would: 0", () -> Courts.plainPair(60), x -> x.lift(0), 0);
        EDGES.tells(14, "DONE: they would now all the same", () -> {
            CrownTwo x = Courts.plainPair(59);
            x.ask(3);
            return x;
        }, x -> x.lift(3), 3);
    }

    private static void both() {
        EDGES.tells(15, "DAY 0 from now", () -> Courts.plainPair(59), x -> x.both(0), 255);
        EDGES.tells(15, "DAY 0 from now, none", () -> Courts.plainPair(60), x -> x.both(0), 0);
        EDGES.tells(15, "DAY 1 from now: 60 by 2 is 58", () -> Courts.plainPair(60), x -> x.both(1), 255);
        EDGES.tells(15, "61 by 2 is 59 behind a DAY", () -> Courts.plainPair(61), x -> x.both(1), 255);
        EDGES.tells(15, "62 by 2 is 60 behind a DAY", () -> Courts.plainPair(62), x -> x.both(1), 0);
        EDGES.tells(15, "DAY 60 from now, 0 kept", () -> Courts.plainPair(99), x -> x.both(60), 255);
        EDGES.tells(15, "DAY 60 from now, 99 kept", () -> Courts.pairOf(0, 1, 20, 1, 20), x -> x.both(60), 0);
        // 1 more a DAY from 0 on: 59 behind 59 DAYS.
        EDGES.tells(15, "DAY 59 from now, 59", () -> Courts.pairOf(0, 0, 15, 0, 0), x -> x.both(59), 255);
        EDGES.tells(15, "DAY 60 from now, 60", () -> Courts.pairOf(0, 0, 15, 0, 0), x -> x.both(60), 0);
        for (int m : new int[] {0, 3, 4, 5, 10, 11, 12, 59, 60}) {
            EDGES.tells(15, "on DAY 3 and " + m + ", a 7th DAY or not", LiftEdgesTest::tiredOnDay3,
                    x -> x.both(m), (3 + m) % 7 == 0 ? 255 : 0);
        }
        EDGES.tells(15, "DONE or not", () -> {
            CrownTwo x = Courts.plainPair(40);
            for (int act = 0; act < 8; act++) x.ask(act);
            return x;
        }, x -> x.both(0), 255);
        EDGES.tells(15, "the least and the greatest ACT", () -> {
            CrownTwo x = new CrownTwo();
            x.heir(3, 1 + 2 + 128, 0, 0);
            x.heir(3, 1 + 64 + 128, 0, 0);
            x.pair(0, 1);
            return x;
        }, x -> x.both(60), 129);
    }

    /** Two tired ones who hate all: they lift on each 7th day alone. */
    private static CrownTwo tiredOnDay3() {
        CrownTwo x = Courts.at(99, 3);
        x.heir(4, 0, Courts.ALL, 0);
        x.heir(4, 0, Courts.ALL, 20);
        x.pair(0, 1);
        return x;
    }

    private static void friends() {
        int[][] alone = {{0, 0}, {8, 0}, {9, 0}, {10, 1}, {11, 1}, {12, 2}, {13, 2}, {50, 21}, {98, 45}, {99, 45}};
        for (int[] row : alone) {
            EDGES.tells(16, "WARMTH is less than 10, no PAIR, from " + row[0], () -> Courts.at(row[0], 0), x -> x.friends(), row[1]);
        }
        EDGES.tells(16, "90 DAYS: from 99 by 1", () -> Courts.pairOf(99, 0, 5, 0, 0), x -> x.friends(), 90);
        EDGES.tells(16, "89 DAYS: from 98 by 1", () -> Courts.pairOf(98, 0, 5, 0, 0), x -> x.friends(), 89);
        EDGES.tells(16, "1 DAY: from 10 by 1", () -> Courts.pairOf(10, 0, 5, 0, 0), x -> x.friends(), 1);
        EDGES.tells(16, "none: it stays at 10", () -> Courts.pairOf(10, 0, 5, 0, 5), x -> x.friends(), CrownTwo.NONE);
        EDGES.tells(16, "now: it stays at 9", () -> Courts.pairOf(9, 0, 5, 0, 5), x -> x.friends(), 0);
        EDGES.tells(16, "none: it grows from 10", () -> Courts.pairOf(10, 1, 20, 1, 20), x -> x.friends(), CrownTwo.NONE);
        EDGES.tells(16, "now, though it grows from 9", () -> Courts.pairOf(9, 1, 20, 1, 20), x -> x.friends(), 0);
        EDGES.tells(16, "from 23 by 14", () -> Courts.pairOf(23, 5, 0, 5, 0), x -> x.friends(), 1);
        EDGES.tells(16, "from 24 by 14", () -> Courts.pairOf(24, 5, 0, 5, 0), x -> x.friends(), 2);
        EDGES.tells(16, "nothing is asked, so DONE does not matter", () -> {
            CrownTwo x = Courts.plainPair(12);
            x.ask(0);
            return x;
        }, x -> x.friends(), 1);
    }

    private static void then() {
        EDGES.tells(17, "behind 0 DAYS", () -> Courts.at(99, 0), x -> x.then(0), 99);
        EDGES.tells(17, "behind 1 DAY", () -> Courts.at(99, 0), x -> x.then(1), 97);
        EDGES.tells(17, "behind 49 DAYS", () -> Courts.at(99, 0), x -> x.then(49), 1);
        EDGES.tells(17, "behind 50 DAYS: 0 kept", () -> Courts.at(99, 0), x -> x.then(50), 0);
        EDGES.tells(17, "behind 90 DAYS: 0 kept", () -> Courts.at(99, 0), x -> x.then(90), 0);
        EDGES.tells(17, "behind 90 DAYS by 1", () -> Courts.pairOf(99, 0, 5, 0, 0), x -> x.then(90), 9);
        EDGES.tells(17, "behind 90 DAYS, 1 more each", () -> Courts.pairOf(8, 0, 15, 0, 0), x -> x.then(90), 98);
        EDGES.tells(17, "behind 90 DAYS, 1 more each: 99", () -> Courts.pairOf(9, 0, 15, 0, 0), x -> x.then(90), 99);
        EDGES.tells(17, "behind 90 DAYS, 1 more each: 99 kept", () -> Courts.pairOf(10, 0, 15, 0, 0), x -> x.then(90), 99);
        EDGES.tells(17, "behind 90 DAYS, 8 more each: 99 kept", () -> Courts.pairOf(0, 1, 20, 1, 20), x -> x.then(90), 99);
        EDGES.tells(17, "behind 12 DAYS, 8 more each", () -> Courts.pairOf(0, 1, 20, 1, 20), x -> x.then(12), 96);
        EDGES.tells(17, "behind a DAY, 14 less: 0 kept", () -> Courts.pairOf(13, 5, 0, 5, 0), x -> x.then(1), 0);
        EDGES.tells(17, "behind 90 DAYS, as it is", () -> Courts.pairOf(77, 0, 5, 0, 5), x -> x.then(90), 77);
    }

    private static void mostDone() {
        for (int n = 1; n <= 4; n++) {
            int days = n;
            EDGES.tells(18, "one a DAY: " + n, () -> Courts.plainPair(40), x -> x.most(days, -1), n);
            EDGES.tells(18, "none can be had in " + n, () -> Courts.pairOf(0, 3, 0, 3, 0), x -> x.most(days, -1), 0);
            EDGES.tells(18, "all 8 are DONE, " + n + " DAYS", LiftEdgesTest::allDone, x -> x.most(days, -1), 0);
            EDGES.tells(18, "7 are DONE, " + n + " DAYS", LiftEdgesTest::allButActFive, x -> x.most(days, -1), 1);
        }
        EDGES.tells(18, "59: a DAY's ACT while it is below 60", () -> Courts.plainPair(59), x -> x.most(1, -1), 1);
        EDGES.tells(18, "60: none in a DAY", () -> Courts.plainPair(60), x -> x.most(1, -1), 0);
        EDGES.tells(18, "60: one in two", () -> Courts.plainPair(60), x -> x.most(2, -1), 1);
        EDGES.tells(18, "0 kept", () -> Courts.plainPair(0), x -> x.most(4, -1), 4);
        // Tired ones who hate all, on day 6: the second of the days is a 7th.
        EDGES.tells(18, "a 7th DAY: not on DAY 6", LiftEdgesTest::tiredOnDay6, x -> x.most(1, -1), 0);
        EDGES.tells(18, "a 7th DAY: on DAY 7", LiftEdgesTest::tiredOnDay6, x -> x.most(2, -1), 1);
        EDGES.tells(18, "a 7th DAY: none more by DAY 9", LiftEdgesTest::tiredOnDay6, x -> x.most(4, -1), 1);
    }

    private static void mostWays() {
        way("the first such way: ACTS rising", () -> Courts.plainPair(40), 0, 1, 2, 3);
        way("none can be had: ACT 0 is asked in vain", () -> Courts.pairOf(0, 3, 0, 3, 0), 0, 0, 0, 0);
        way("all 8 are DONE: 8, none", LiftEdgesTest::allDone, 8, 8, 8, 8);
        way("7 are DONE: the last one, then none", LiftEdgesTest::allButActFive, 5, 8, 8, 8);
        way("asked in vain goes ahead of none", LiftEdgesTest::tiredOnDay6, 0, 0, 1, 1);
        // At 61 an act asked in vain makes 62, so 60 on the next day: none is asked.
        way("none, where asking would cost one", () -> Courts.plainPair(61), 8, 0, 1, 2);
        // At 60 an act asked in vain makes 61, so 59 on the next day: it costs nothing.
        way("asked in vain, where it costs none", () -> Courts.plainPair(60), 0, 0, 1, 2);
        // 6 more a day from 59 on: what is neither must come first, what both like may wait.
        way("what may wait comes later", () -> {
            CrownTwo x = new CrownTwo();
            x.court(59);
            x.heir(0, 1, 0, 20);
            x.heir(0, 1, 0, 20);
            x.pair(0, 1);
            return x;
        }, 1, 0, 2, 2);
        // At 60 the first alone lifts for act 0: 65, so 63; for act 1 none does: 61, so 59 on the next day.
        way("asked in vain by none, where by one it would cost one", () -> {
            CrownTwo x = new CrownTwo();
            x.court(60);
            x.heir(0, 1, 0, 0);
            x.heir(0, 0, 0, 0);
            x.pair(0, 1);
            return x;
        }, 1, 0, 1, 2);
        EDGES.edge(18, "asked for twice: the later one knows nothing of the first", c -> {
            CrownTwo x = Courts.plainPair(40);
            c.due("most(4, -1) at 40", x.most(4, -1), 4);
            for (int i = 0; i < 3; i++) x.feed(20);
            c.due("most(4, -1) at 99", x.most(4, -1), 0);
            c.due("most(4, 3) at 99", x.most(4, 3), 0);
        });
        way("DONE ones are left out", () -> {
            CrownTwo x = Courts.plainPair(40);
            x.ask(0);
            x.ask(2);
            return x;
        }, 1, 3, 4, 5);
        for (int n = 1; n <= 4; n++) {
            int days = n;
            EDGES.tells(18, "the last DAY of " + n, () -> Courts.plainPair(40), x -> x.most(days, days - 1), n - 1);
        }
    }

    private static void way(String words, Supplier<CrownTwo> made, int... acts) {
        for (int i = 0; i < acts.length; i++) {
            int at = i;
            EDGES.tells(18, words + ": DAY " + i, made, x -> x.most(4, at), acts[i]);
        }
    }

    private static CrownTwo allDone() {
        CrownTwo x = allButActFive();
        x.ask(5);
        return x;
    }

    private static CrownTwo allButActFive() {
        CrownTwo x = Courts.plainPair(40);
        for (int act = 0; act < 8; act++) if (act != 5) x.ask(act);
        return x;
    }

    private static CrownTwo tiredOnDay6() {
        CrownTwo x = Courts.at(50, 6);
        x.heir(4, 0, Courts.ALL, 0);
        x.heir(4, 0, Courts.ALL, 0);
        x.pair(0, 1);
        return x;
    }

    private static void mostRefused() {
        for (int n = 1; n <= 4; n++) {
            int days = n;
            EDGES.tells(18, "-5: not so many, i is n, " + n, Courts::busy, x -> x.most(days, days), -5);
            EDGES.tells(18, "-5: not so many, i by far, n " + n, Courts::busy, x -> x.most(days, Integer.MAX_VALUE), -5);
        }
        EDGES.refused(18, "BAD: -10, both numbers", Courts::busy, x -> x.most(0, -2), -10, 0);
        EDGES.refused(18, "BAD: -10 goes ahead of -5", Courts::busy, x -> x.most(5, 5), -10, 0);
        EDGES.refused(18, "BAD: -10 goes ahead of -5, no DAYS", Courts::busy, x -> x.most(0, 0), -10, 0);
        EDGES.no(18, "NO goes ahead of -5", () -> Courts.heirs(2), x -> x.most(4, 4));
    }

    private static void keep() {
        int[][] alone = {
            {50, 1, 0}, {50, 20, 0}, {50, 21, 2}, {12, 1, 0}, {11, 1, 1}, {10, 1, 2}, {9, 1, 3}, {0, 1, 12},
            {0, 44, 98}, {0, 45, -1}, {99, 44, 0}, {98, 44, 0}, {97, 44, 1}, {99, 45, -1}, {99, 60, -1}, {0, 60, -1}};
        for (int[] row : alone) {
            EDGES.tells(19, "no PAIR, from " + row[0] + " for " + row[1] + " DAYS", () -> Courts.at(row[0], 0),
                    x -> x.keep(row[1]), row[2]);
        }
        Supplier<CrownTwo> grows = () -> Courts.pairOf(9, 1, 20, 1, 20), stays = () -> Courts.pairOf(0, 0, 5, 0, 5);
        EDGES.tells(19, "nor now: it grows by itself, from 9", grows, x -> x.keep(60), 1);
        EDGES.tells(19, "nor now: it stays, from 0", stays, x -> x.keep(60), 10);
        EDGES.tells(19, "0: it grows, from 10", () -> Courts.pairOf(10, 1, 20, 1, 20), x -> x.keep(60), 0);
        EDGES.tells(19, "60 DAYS by 1, from 70", () -> Courts.pairOf(70, 0, 5, 0, 0), x -> x.keep(60), 0);
        EDGES.tells(19, "60 DAYS by 1, from 69", () -> Courts.pairOf(69, 0, 5, 0, 0), x -> x.keep(60), 1);
        EDGES.tells(19, "60 DAYS by 1, from 0", () -> Courts.pairOf(0, 0, 5, 0, 0), x -> x.keep(60), 70);
        EDGES.tells(19, "99 at most it is kept: 8 DAYS by 11", () -> Courts.pairOf(98, 2, 0, 5, 0), x -> x.keep(8), 0);
        EDGES.tells(19, "99 at most it is kept: 9 DAYS by 11", () -> Courts.pairOf(98, 2, 0, 5, 0), x -> x.keep(9), CrownTwo.NONE);
        EDGES.tells(19, "none, by 14", () -> Courts.pairOf(99, 5, 0, 5, 0), x -> x.keep(7), CrownTwo.NONE);
        EDGES.tells(19, "6 DAYS by 14, from 0", () -> Courts.pairOf(0, 5, 0, 5, 0), x -> x.keep(6), 94);
    }
}
