import java.util.function.Supplier;

/** Promises 22 to 29, their boundary cases: note, forget, is, heart, next, spite, slips, reigns. */
public final class NotesEdgesTest {
    private static final Edges EDGES = new Edges("NotesEdgesTest", 22, 29);

    public static void main(String[] args) {
        notesCome();
        forget();
        isByOneNote();
        isOtherwise();
        heartByOneNote();
        heartOtherwise();
        next();
        spite();
        slipsByOdds();
        slipsOtherwise();
        reignsBySeed();
        reignsOtherwise();
        EDGES.end();
    }

    private static CrownTwo notes(int many) {
        CrownTwo x = Courts.heirs(6);
        for (int i = 0; i < many; i++) x.note(i, i, i, i, i % 2);
        return x;
    }

    private static void notesCome() {
        for (int many = 0; many < 6; many++) {
            int had = many;
            EDGES.edge(22, "how many there are: behind " + many, c -> {
                CrownTwo x = notes(had);
                c.due("note", x.note(5, 7, 99, 99, 1), had + 1);
                c.due("count(4)", x.count(4), had + 1);
            });
        }
        EDGES.full(22, "FULL: 6", () -> notes(6), x -> x.note(0, 0, 0, 0, 0));
        EDGES.full(22, "FULL: 6, the greatest numbers", () -> notes(6), x -> x.note(5, 7, 99, 99, 1));
        EDGES.edge(22, "FULL: room again behind forget", c -> {
            CrownTwo x = notes(6);
            x.note(0, 0, 0, 0, 0);
            x.forget();
            c.due("note", x.note(0, 0, 0, 0, 0), 1);
        });
        EDGES.edge(22, "the same NOTE twice is two", c -> {
            CrownTwo x = notes(1);
            c.due("note", x.note(0, 0, 0, 0, 0), 2);
        });
        EDGES.edge(22, "a NOTE can not be undone and changes nothing else", c -> {
            CrownTwo x = Courts.plainPair(30);
            x.note(0, 0, 0, 0, 0);
            int[] due = {2, 0, 30, 0, 1, 1, 0};
            for (int what = 0; what < 7; what++) c.due("count(" + what + ")", x.count(what), due[what]);
        });
        EDGES.edge(22, "kept as told, the least and the most", c -> {
            CrownTwo x = Courts.heirs(1);
            x.note(0, 0, 0, 0, 0);
            x.note(0, 7, 99, 99, 1);
            c.due("digest", x.digest(), Check.fold(
                    1, 0, 50, 0, 2, 0, 0, 0, -1, -1, 0, 0, 0, 0, 0, 0, 0, 0, 0, 0, 7, 99, 99, 1, 0, 1));
        });
    }

    private static void forget() {
        for (int many = 0; many <= 6; many++) {
            int had = many;
            EDGES.edge(23, "how many there were: " + many, c -> {
                CrownTwo x = notes(had);
                c.due("forget", x.forget(), had);
                c.due("count(4)", x.count(4), 0);
                c.due("forget again", x.forget(), 0);
            });
        }
        EDGES.edge(23, "no NOTES, nothing changed", c -> c.changesNothing(() -> notes(0), x -> x.forget(), 0, -1));
        EDGES.edge(23, "no NOTES then: any KIND may be, any heart", c -> {
            CrownTwo x = notes(0);
            x.note(2, 3, 99, 1, 1);
            c.due("IS ahead of it", x.is(2), 0);
            x.forget();
            c.due("IS", x.is(2), 63);
            c.due("HEART", x.heart(2, 3), 7);
        });
    }

    /** An ACT (0 liked, 1 hated, 2 in none, 3 in both), WARMTH, DAY; the kinds that lift. */
    private static void isByOneNote() {
        int[][] rows = {
            {0, 0, 0, 63}, {0, 79, 1, 63}, {0, 80, 1, 45}, {0, 80, 7, 61}, {0, 99, 98, 61}, {0, 99, 99, 45},
            {1, 0, 1, 32}, {1, 29, 1, 32}, {1, 30, 1, 0}, {1, 29, 0, 48}, {1, 30, 7, 16}, {1, 99, 98, 16}, {1, 99, 99, 0},
            {2, 0, 0, 55}, {2, 59, 1, 55}, {2, 60, 1, 0}, {2, 60, 0, 16}, {2, 60, 6, 0}, {2, 60, 8, 0}, {2, 99, 14, 16},
            {3, 59, 1, 55}, {3, 60, 1, 0}, {3, 60, 7, 16}};
        for (int[] r : rows) {
            String words = "KINDS by an ACT " + r[0] + " in WARMTH " + r[1] + " on DAY " + r[2];
            EDGES.tells(24, words + ", LIFTED", () -> noted(r, 1), x -> x.is(1), r[3]);
            EDGES.tells(24, words + ", did not", () -> noted(r, 0), x -> x.is(1), 63 - r[3]);
        }
    }

    private static CrownTwo noted(int[] row, int lifted) {
        CrownTwo x = Courts.heirs(1);
        x.heir(3, 1 + 8, 2 + 8, 0);
        x.note(1, row[0], row[1], row[2], lifted);
        return x;
    }

    private static void isOtherwise() {
        EDGES.tells(24, "no NOTES: all KINDS", () -> Courts.heirs(1), x -> x.is(0), 63);
        EDGES.tells(24, "NOTES of others alone: all KINDS", () -> noted(new int[] {1, 99, 99}, 1), x -> x.is(0), 63);
        EDGES.tells(24, "no KIND: LIFTED and did not, all alike", () -> {
            CrownTwo x = noted(new int[] {0, 10, 1}, 1);
            x.note(1, 0, 10, 1, 0);
            return x;
        }, x -> x.is(1), 0);
        for (int first = 0; first < 2; first++) {
            int of = first;
            EDGES.tells(24, "all six NOTES count, the first and the last: " + first, () -> {
                CrownTwo x = Courts.heirs(2);
                // One note is its own, the first or the last of six: it can't be the proud one.
                if (of == 0) x.note(1, 0, 10, 1, 1);
                for (int i = 0; i < 5; i++) x.note(0, 0, 10, 1, 0);
                if (of == 1) x.note(1, 0, 10, 1, 1);
                return x;
            }, x -> x.is(1), 55);
        }
        EDGES.tells(24, "whatever KIND it has, WARMTH and DAY now", () -> {
            CrownTwo x = Courts.at(99, 13);
            x.heir(5, 0, 1, 0);
            x.note(0, 0, 29, 1, 1);
            return x;
        }, x -> x.is(0), 32);
        EDGES.tells(24, "a NOTE of an ACT in WARMTH that is not now", () -> {
            CrownTwo x = Courts.at(0, 0);
            x.heir(0, 0, 0, 0);
            x.note(0, 7, 60, 1, 0);
            return x;
        }, x -> x.is(0), 63);
    }

    /** KIND, WARMTH, DAY, LIFTED; LIKE it alone (1), HATE it alone (2), neither (4). */
    private static void heartByOneNote() {
        int[][] rows = {
            {0, 59, 1, 1, 5}, {0, 60, 1, 1, 1}, {0, 99, 7, 1, 1}, {0, 59, 1, 0, 2}, {0, 60, 1, 0, 6}, {0, 0, 0, 0, 2},
            {1, 59, 1, 1, 5}, {1, 60, 1, 1, 1}, {1, 79, 1, 1, 1}, {1, 80, 1, 1, 0}, {1, 79, 1, 0, 6}, {1, 80, 1, 0, 7},
            {2, 59, 1, 1, 5}, {2, 60, 1, 1, 1}, {2, 29, 1, 0, 2},
            {3, 0, 0, 1, 1}, {3, 99, 1, 1, 1}, {3, 0, 0, 0, 6}, {3, 99, 1, 0, 6},
            {4, 99, 7, 1, 7}, {4, 99, 7, 0, 0}, {4, 60, 6, 1, 1}, {4, 80, 8, 1, 0}, {4, 80, 8, 0, 7}, {4, 0, 0, 0, 0},
            {5, 29, 1, 1, 7}, {5, 29, 1, 0, 0}, {5, 30, 1, 1, 5}, {5, 30, 1, 0, 2}, {5, 60, 1, 1, 1}, {5, 60, 1, 0, 6}};
        int[][] hearts = {{0, 0}, {128, 0}, {0, 128}, {128, 128}};
        for (int[] r : rows) {
            for (int[] h : hearts) {
                String words = "KIND " + r[0] + ", WARMTH " + r[1] + ", DAY " + r[2] + ", LIFTED " + r[3]
                        + ", LIKES " + h[0] + ", HATES " + h[1];
                EDGES.tells(25, words, () -> {
                    CrownTwo x = new CrownTwo();
                    x.heir(r[0], h[0], h[1], 0);
                    x.note(0, 7, r[1], r[2], r[3]);
                    return x;
                }, x -> x.heart(0, 7), r[4]);
            }
        }
    }

    private static void heartOtherwise() {
        for (int act = 0; act < 8; act += 7) {
            int a = act;
            EDGES.tells(25, "no NOTES, ACT " + act + ": any", () -> Courts.heirs(1), x -> x.heart(0, a), 7);
        }
        EDGES.tells(25, "NOTES of others alone: any", () -> noted(new int[] {1, 99, 99}, 1), x -> x.heart(0, 1), 7);
        EDGES.tells(25, "none: LIFTED and did not, all alike", () -> {
            CrownTwo x = noted(new int[] {0, 10, 1}, 1);
            x.note(1, 0, 10, 1, 0);
            return x;
        }, x -> x.heart(1, 0), 0);
        EDGES.tells(25, "all NOTES: by two of them neither is left", () -> {
            CrownTwo x = Courts.heirs(1);
            x.note(0, 4, 59, 1, 1);
            x.note(0, 4, 60, 1, 0);
            return x;
        }, x -> x.heart(0, 4), 4);
        EDGES.tells(25, "all else as it is: a NOTE of another ACT that is so", () -> {
            CrownTwo x = new CrownTwo();
            x.heir(0, 2, 0, 0);
            x.note(0, 1, 99, 1, 1);
            return x;
        }, x -> x.heart(0, 0), 7);
        EDGES.tells(25, "all else as it is: a NOTE of another ACT that is not so", () -> {
            CrownTwo x = new CrownTwo();
            x.heir(0, 0, 2, 0);
            x.note(0, 1, 99, 1, 1);
            return x;
        }, x -> x.heart(0, 0), 0);
    }

    private static void next() {
        EDGES.tells(26, "none: no KIND", () -> {
            CrownTwo x = Courts.heirs(1);
            x.note(0, 0, 60, 1, 1);
            return x;
        }, x -> x.next(0), CrownTwo.NONE);
        EDGES.tells(26, "of like ones the first: one KIND is left", () -> {
            CrownTwo x = Courts.heirs(1);
            x.note(0, 0, 60, 7, 1);
            return x;
        }, x -> x.next(0), 0);
        asksNext("of like ones the first: all neither", 50, 1, 0, 0, 0);
        asksNext("of like ones the first: all liked", 50, 1, 255, 0, 0);
        asksNext("the greatest ACT: hated at 29, all else liked", 29, 1, 127, 128, 7);
        asksNext("hated at 30, all else liked: like ones", 30, 1, 127, 128, 0);
        asksNext("neither at 59, all else liked", 59, 1, 127, 0, 7);
        asksNext("neither at 60, all else liked: like ones", 60, 1, 127, 0, 0);
        asksNext("in both at 59, all else liked", 59, 1, 255, 64, 6);
        asksNext("liked at 80, 4 of 6, all else neither", 80, 1, 8, 0, 3);
        asksNext("liked at 79, all else neither: like ones", 79, 1, 8, 0, 0);
        asksNext("liked at 80 on a 7th DAY: 5 of 6, as 1 of 6", 80, 7, 8, 0, 0);
        asksNext("hated on a 7th DAY at 29: 2 of 6, all else neither", 29, 7, 0, 4, 2);
        asksNext("hated on the DAY ahead of it: like ones", 29, 6, 0, 4, 0);
        EDGES.tells(26, "KINDS that it may be alone: sulky or tired", () -> {
            CrownTwo x = Courts.at(80, 7);
            x.heir(0, 255 - 32, 0, 0);
            x.note(0, 0, 85, 1, 0);
            return x;
        }, x -> x.next(0), 0);
        EDGES.tells(26, "KINDS that it may be alone: not the proud, at 29", () -> {
            CrownTwo x = Courts.at(29, 1);
            x.heir(0, 0, 128, 0);
            x.note(0, 3, 20, 1, 1);
            return x;
        }, x -> x.next(0), 7);
        EDGES.tells(26, "NOTES of others do not matter", () -> {
            CrownTwo x = Courts.at(29, 1);
            x.heir(0, 127, 128, 0);
            x.heir(0, 0, 0, 0);
            x.note(1, 0, 60, 1, 1);
            return x;
        }, x -> x.next(0), 7);
    }

    private static void asksNext(String words, int warmth, int day, int likes, int hates, int act) {
        EDGES.tells(26, words, () -> {
            CrownTwo x = Courts.at(warmth, day);
            x.heir(0, likes, hates, 0);
            return x;
        }, x -> x.next(0), act);
    }

    private static void spite() {
        // Neither always rests; both rest where both like it, for 2 is more than 1 and 0 is not.
        int[][] hearts = {{0, 0}, {128, 0}, {0, 128}, {128, 128}};
        for (int one = 0; one < 4; one++) {
            for (int other = 0; other < 4; other++) {
                int[] a = hearts[one], b = hearts[other];
                String words = "LIKES " + a[0] + ", HATES " + a[1] + "; LIKES " + b[0] + ", HATES " + b[1];
                EDGES.tells(27, words, () -> {
                    CrownTwo x = Courts.at(99, 1);
                    x.heir(1, a[0], a[1], 0);
                    x.heir(5, b[0], b[1], 0);
                    x.pair(0, 1);
                    return x;
                }, x -> x.spite(7), one == 1 && other == 1 ? 9 : 1);
            }
        }
        EDGES.tells(27, "DONE or not", () -> {
            CrownTwo x = likers(255, 255);
            x.ask(0);
            return x;
        }, x -> x.spite(0), 9);
    }

    /** Two proud ones, a pair: they lift for what they like, whatever WARMTH is. */
    private static CrownTwo likers(int likes, int otherLikes) {
        CrownTwo x = Courts.at(99, 0);
        x.heir(3, likes, 0, 0);
        x.heir(3, otherLikes, 0, 0);
        x.pair(0, 1);
        return x;
    }

    /** Who would lift, c of 10, THE FRACTION. */
    private static void slipsByOdds() {
        int[][] rows = {
            {3, 0, 1, 1}, {3, 1, 81, 100}, {3, 2, 16, 25}, {3, 4, 9, 25}, {3, 5, 1, 4}, {3, 9, 1, 100}, {3, 10, 0, 1},
            {1, 0, 0, 1}, {1, 1, 9, 100}, {1, 2, 4, 25}, {1, 4, 6, 25}, {1, 5, 1, 4}, {1, 9, 9, 100}, {1, 10, 0, 1},
            {2, 0, 0, 1}, {2, 1, 9, 100}, {2, 3, 21, 100}, {2, 6, 6, 25}, {2, 5, 1, 4}, {2, 9, 9, 100}, {2, 10, 0, 1},
            {0, 0, 0, 1}, {0, 1, 1, 100}, {0, 2, 1, 25}, {0, 5, 1, 4}, {0, 6, 9, 25}, {0, 9, 81, 100}, {0, 10, 1, 1}};
        for (int[] r : rows) {
            EDGES.edge(28, "who would: " + r[0] + ", by " + r[1] + " of 10", c -> {
                CrownTwo x = likers((r[0] & 1) * 4, (r[0] >> 1) * 4);
                c.due("slips", x.slips(2, r[1]), 1);
                c.due("above", x.part(0), r[2]);
                c.due("below, lowest terms", x.part(1), r[3]);
            });
        }
    }

    private static void slipsOtherwise() {
        EDGES.edge(28, "a chance of 0 behind another: 0 by 1", c -> {
            CrownTwo x = likers(1, 1);
            x.slips(0, 1);
            x.slips(0, 10);
            c.due("above", x.part(0), 0);
            c.due("below", x.part(1), 1);
        });
        EDGES.edge(28, "refused: THE FRACTION stays", c -> {
            CrownTwo x = likers(1, 1);
            x.slips(0, 1);
            x.slips(0, 11);
            x.slips(8, 0);
            x.undo();
            c.due("no PAIR", x.slips(0, 5), CrownTwo.NO);
            c.due("above", x.part(0), 81);
            c.due("below", x.part(1), 100);
        });
        EDGES.edge(28, "THE FRACTION alone is changed, none may be undone by it", c -> {
            CrownTwo x = likers(1, 1);
            int may = x.count(5);
            x.slips(0, 0);
            c.due("may be undone", x.count(5), may);
            c.due("DONE", x.count(3), 0);
            c.due("WARMTH", x.count(2), 99);
        });
        EDGES.edge(28, "DONE: what they would now", c -> {
            CrownTwo x = likers(1, 1);
            x.ask(0);
            c.due("slips", x.slips(0, 0), 1);
            c.due("above", x.part(0), 1);
        });
        for (int warmth = 59; warmth <= 60; warmth++) {
            int w = warmth;
            EDGES.edge(28, "by WARMTH now: " + warmth, c -> {
                CrownTwo x = Courts.plainPair(w);
                x.slips(0, 0);
                c.due("above", x.part(0), w < 60 ? 1 : 0);
            });
        }
    }

    /** On which day from now each act is asked first, by seed, as reckoned outside of the program. */
    private static void reignsBySeed() {
        int[] seeds = {0, 1, 7, 123456, 999999};
        int[][] firsts = {
            {1, 18, 5, 13, 2, 4, 14, 6}, {30, 3, 7, 4, 9, 11, 1, 12}, {26, 9, 4, 5, 1, 6, 2, 23},
            {3, 7, 4, 32, 2, 1, 23, 5}, {1, 11, 15, 16, 10, 6, 2, 3}};
        for (int i = 0; i < seeds.length; i++) {
            int last = 0;
            for (int act = 0; act < 8; act++) {
                int seed = seeds[i], first = firsts[i][act], only = 1 << act;
                String words = "SEED " + seed + ": ACT " + act + " first on DAY " + first;
                EDGES.tells(29, words + ", not ahead of it", () -> likers(255, only), x -> x.reigns(seed, first - 1), 0);
                EDGES.tells(29, words, () -> likers(255, only), x -> x.reigns(seed, first), 1);
                EDGES.tells(29, words + ", once in 60", () -> likers(255, only), x -> x.reigns(seed, 60), 1);
                last = Math.max(last, first);
            }
            int seed = seeds[i], all = last;
            EDGES.tells(29, "SEED " + seed + ": all 8 in " + all, () -> likers(255, 255), x -> x.reigns(seed, all), 8);
            EDGES.tells(29, "SEED " + seed + ": 7 in one less", () -> likers(255, 255), x -> x.reigns(seed, all - 1), 7);
            EDGES.tells(29, "SEED " + seed + ": 8 at most", () -> likers(255, 255), x -> x.reigns(seed, 60), 8);
        }
    }

    private static void reignsOtherwise() {
        Supplier<CrownTwo> two = () -> {
            CrownTwo x = likers(255, 255);
            x.ask(0);
            x.ask(1);
            return x;
        };
        EDGES.tells(29, "0 DAYS: none", () -> likers(255, 255), x -> x.reigns(999999, 0), 0);
        EDGES.tells(29, "0 DAYS: those that are DONE", two, x -> x.reigns(0, 0), 2);
        EDGES.tells(29, "an ACT that is DONE is not asked: SEED 0 begins with 0", two, x -> x.reigns(0, 1), 2);
        EDGES.tells(29, "then the DAY goes by, and 4 is asked", two, x -> x.reigns(0, 2), 3);
        EDGES.tells(29, "all are DONE: 8", () -> {
            CrownTwo x = likers(255, 255);
            for (int act = 0; act < 8; act++) x.ask(act);
            return x;
        }, x -> x.reigns(5, 60), 8);
        Supplier<CrownTwo> tired = () -> {
            CrownTwo x = Courts.at(50, 7);
            x.heir(4, 0, 255, 0);
            x.heir(4, 0, 255, 0);
            x.pair(0, 1);
            return x;
        };
        // From seed 0 on: 0, 4, 4, 5, 2, 7, 5, then 5 again, on a 7th day.
        EDGES.tells(29, "from now: DAY 7 is a 7th", tired, x -> x.reigns(0, 1), 1);
        EDGES.tells(29, "from now: DAYS 8 to 13 are none", tired, x -> x.reigns(0, 7), 1);
        EDGES.tells(29, "from now: DAY 14 is one", tired, x -> x.reigns(0, 8), 2);
        // 61: in vain, 62 less 2; 60: in vain, 61 less 2; 59: both lift for 4.
        EDGES.tells(29, "in vain WARMTH is 1 more: two DAYS from 61", () -> Courts.plainPair(61), x -> x.reigns(0, 2), 0);
        EDGES.tells(29, "in vain WARMTH is 1 more: three DAYS from 61", () -> Courts.plainPair(61), x -> x.reigns(0, 3), 1);
        // 99 kept, less 2: 97; then 1 less a day, so that it is 59 on the 40th day and not on the 41st.
        EDGES.tells(29, "99 kept: 39 DAYS from 99", () -> Courts.plainPair(99), x -> x.reigns(0, 39), 0);
        EDGES.tells(29, "99 kept: 40 DAYS from 99", () -> Courts.plainPair(99), x -> x.reigns(0, 40), 1);
    }
}
