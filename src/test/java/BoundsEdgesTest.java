import java.util.function.Supplier;

/**
 * Each number that a call takes: its least and its most are taken; one less, one more, the least and the most int are
 * refused as BAD and change nothing but STATUS. Then which of two reasons goes ahead, and what is BAD or NO where
 * there is no heir, no pair. All promises that take a number.
 */
public final class BoundsEdgesTest {
    private static final Edges EDGES = new Edges("BoundsEdgesTest", 1, 35);
    private static final int NO_MOST = Integer.MAX_VALUE;

    public static void main(String[] args) {
        courtNumbers();
        dayNumbers();
        liftNumbers();
        noteNumbers();
        standNumbers();
        callsWithoutNumbers();
        noHeirIsThere();
        badGoesAheadOfNo();
        badGoesAheadOfFull();
        noPair();
        pairGone();
        EDGES.end();
    }

    private static void courtNumbers() {
        number(2, "court: warmth", 0, 99, (x, v) -> x.court(v));
        number(3, "heir: kind", 0, 5, (x, v) -> x.heir(v, 0, 0, 0));
        number(3, "heir: like", 0, 255, (x, v) -> x.heir(0, v, 0, 0));
        number(3, "heir: hate", 0, 255, (x, v) -> x.heir(0, 0, v, 0));
        number(3, "heir: temper", 0, 20, (x, v) -> x.heir(0, 0, 0, v));
        number(4, "type: c", 0, 127, (x, v) -> x.type(v));
    }

    private static void dayNumbers() {
        number(7, "pair: p", 0, 3, (x, v) -> x.pair(v, 1));
        number(7, "pair: q", 0, 3, (x, v) -> x.pair(1, v));
        number(8, "ask: act", 0, 7, (x, v) -> x.ask(v));
        number(9, "day: n", 1, 60, (x, v) -> x.day(v));
        number(10, "feed: n", 1, 20, (x, v) -> x.feed(v));
        number(12, "of: p", 0, 3, (x, v) -> x.of(v, 0));
        number(12, "of: what", 0, 4, (x, v) -> x.of(0, v));
        number(13, "makes: p", 0, 3, -100, (x, v) -> x.makes(v));
    }

    private static void liftNumbers() {
        number(14, "lift: act", 0, 7, (x, v) -> x.lift(v));
        number(15, "both: m", 0, 60, (x, v) -> x.both(v));
        number(17, "then: m", 0, 90, (x, v) -> x.then(v));
        number(18, "most: n", 1, 4, -10, (x, v) -> x.most(v, -1));
        number(18, "most: n, with a DAY asked for", 1, 4, -10, (x, v) -> x.most(v, 0));
        number(18, "most: i", -1, NO_MOST, -10, (x, v) -> x.most(1, v));
        number(19, "keep: n", 1, 60, (x, v) -> x.keep(v));
        number(20, "lasts: p", 0, 3, (x, v) -> x.lasts(v, 1));
        number(20, "lasts: q", 0, 3, (x, v) -> x.lasts(1, v));
        number(21, "pairs: what", 0, 1, (x, v) -> x.pairs(v));
    }

    private static void noteNumbers() {
        number(22, "note: p", 0, 3, (x, v) -> x.note(v, 0, 0, 0, 0));
        number(22, "note: act", 0, 7, (x, v) -> x.note(0, v, 0, 0, 0));
        number(22, "note: w", 0, 99, (x, v) -> x.note(0, 0, v, 0, 0));
        number(22, "note: d", 0, 99, (x, v) -> x.note(0, 0, 0, v, 0));
        number(22, "note: lifted", 0, 1, (x, v) -> x.note(0, 0, 0, 0, v));
        number(24, "is: p", 0, 3, (x, v) -> x.is(v));
        number(25, "heart: p", 0, 3, (x, v) -> x.heart(v, 0));
        number(25, "heart: act", 0, 7, (x, v) -> x.heart(0, v));
        number(26, "next: p", 0, 3, (x, v) -> x.next(v));
        number(27, "spite: act", 0, 7, (x, v) -> x.spite(v));
        number(28, "slips: act", 0, 7, (x, v) -> x.slips(v, 0));
        number(28, "slips: c", 0, 10, (x, v) -> x.slips(0, v));
        number(29, "reigns: seed", 0, 999999, (x, v) -> x.reigns(v, 0));
        number(29, "reigns: n", 0, 60, (x, v) -> x.reigns(0, v));
    }

    private static void standNumbers() {
        number(30, "part: what", 0, 1, (x, v) -> x.part(v));
        number(31, "image: i", 0, 1, (x, v) -> x.image(v));
        number(32, "from: i", 0, 1, (x, v) -> x.from(v));
        number(33, "status: what", 0, 2, -1, (x, v) -> x.status(v));
        number(34, "count: what", 0, 6, (x, v) -> x.count(v));
    }

    /** These take no number: they are never BAD nor FULL, wherever they come. */
    private static void callsWithoutNumbers() {
        taken(1, "a new object is refused nothing yet", x -> x.status(0) + x.status(1) + x.status(2));
        taken(5, "clear is never refused", x -> x.clear());
        taken(6, "read of an empty TEXT is a FAULT, not refused", x -> x.read());
        taken(16, "friends is never refused", x -> x.friends());
        taken(23, "forget is never refused", x -> x.forget());
        taken(35, "digest is never refused", x -> x.digest());
        EDGES.no(11, "undo of a new object: NO, never BAD", CrownTwo::new, x -> x.undo());
    }

    private static void noHeirIsThere() {
        for (int many = 0; many <= 5; many++) {
            int p = many;
            String words = many + " HEIRS, so HEIR " + p + " is none: ";
            Supplier<CrownTwo> made = () -> Courts.heirs(p);
            EDGES.bad(7, words + "pair, the second", made, x -> x.pair(0, p));
            EDGES.bad(7, words + "pair, the first", made, x -> x.pair(p, 0));
            EDGES.bad(12, words + "of", made, x -> x.of(p, 4));
            EDGES.refused(13, words + "makes", made, x -> x.makes(p), -100, 0);
            EDGES.bad(20, words + "lasts, the second", made, x -> x.lasts(0, p));
            EDGES.bad(20, words + "lasts, the first", made, x -> x.lasts(p, 0));
            EDGES.bad(22, words + "note", made, x -> x.note(p, 0, 0, 0, 0));
            EDGES.bad(24, words + "is", made, x -> x.is(p));
            EDGES.bad(25, words + "heart", made, x -> x.heart(p, 0));
            EDGES.bad(26, words + "next", made, x -> x.next(p));
        }
        EDGES.bad(7, "6 HEIRS are the most: pair with 6", () -> Courts.heirs(6), x -> x.pair(0, 6));
        EDGES.bad(12, "6 HEIRS are the most: of 6", () -> Courts.heirs(6), x -> x.of(6, 0));
        EDGES.refused(13, "6 HEIRS are the most: makes of 6", () -> Courts.heirs(6), x -> x.makes(6), -100, 0);
        EDGES.bad(20, "6 HEIRS are the most: lasts with 6", () -> Courts.heirs(6), x -> x.lasts(6, 5));
    }

    private static void badGoesAheadOfNo() {
        Supplier<CrownTwo> unpaired = () -> Courts.heirs(2);
        EDGES.bad(8, "BAD, then NO: no PAIR and no such ACT", unpaired, x -> x.ask(8));
        EDGES.bad(14, "BAD, then NO: no PAIR and no such ACT", unpaired, x -> x.lift(-1));
        EDGES.bad(15, "BAD, then NO: no PAIR and too many DAYS", unpaired, x -> x.both(61));
        EDGES.refused(18, "BAD, then NO: no PAIR and too many DAYS", unpaired, x -> x.most(5, 0), -10, 0);
        EDGES.refused(18, "BAD, then NO: no PAIR and i below NONE", unpaired, x -> x.most(4, -2), -10, 0);
        EDGES.bad(27, "BAD, then NO: no PAIR and no such ACT", unpaired, x -> x.spite(8));
        EDGES.bad(28, "BAD, then NO: no PAIR and no such ACT", unpaired, x -> x.slips(8, 0));
        EDGES.bad(28, "BAD, then NO: no PAIR and no such odds", unpaired, x -> x.slips(0, 11));
        EDGES.bad(29, "BAD, then NO: no PAIR and no such SEED", unpaired, x -> x.reigns(1000000, 0));
        EDGES.bad(29, "BAD, then NO: no PAIR and too many DAYS", unpaired, x -> x.reigns(0, 61));
        EDGES.bad(32, "BAD, then NO: no IMAGE of that number can be", unpaired, x -> x.from(2));
    }

    private static void badGoesAheadOfFull() {
        Supplier<CrownTwo> six = () -> Courts.heirs(6);
        EDGES.bad(3, "BAD, then FULL: kind", six, x -> x.heir(6, 0, 0, 0));
        EDGES.bad(3, "BAD, then FULL: like", six, x -> x.heir(0, 256, 0, 0));
        EDGES.bad(3, "BAD, then FULL: hate", six, x -> x.heir(0, 0, 256, 0));
        EDGES.bad(3, "BAD, then FULL: temper", six, x -> x.heir(0, 0, 0, 21));
        EDGES.bad(4, "BAD, then FULL: the byte", BoundsEdgesTest::fullText, x -> x.type(128));
        EDGES.bad(22, "BAD, then FULL: p", BoundsEdgesTest::fullNotes, x -> x.note(1, 0, 0, 0, 0));
        EDGES.bad(22, "BAD, then FULL: act", BoundsEdgesTest::fullNotes, x -> x.note(0, 8, 0, 0, 0));
        EDGES.bad(22, "BAD, then FULL: w", BoundsEdgesTest::fullNotes, x -> x.note(0, 0, 100, 0, 0));
        EDGES.bad(22, "BAD, then FULL: d", BoundsEdgesTest::fullNotes, x -> x.note(0, 0, 0, 100, 0));
        EDGES.bad(22, "BAD, then FULL: lifted", BoundsEdgesTest::fullNotes, x -> x.note(0, 0, 0, 0, 2));
    }

    private static CrownTwo fullText() {
        CrownTwo x = new CrownTwo();
        for (int i = 0; i < 150; i++) x.type(32);
        return x;
    }

    private static CrownTwo fullNotes() {
        CrownTwo x = Courts.heirs(1);
        for (int i = 0; i < 6; i++) x.note(0, i, 10 * i, i, i % 2);
        return x;
    }

    private static void noPair() {
        withoutPair("a new object", CrownTwo::new);
        withoutPair("HEIRS, but none told to be THE PAIR", () -> Courts.heirs(6));
    }

    private static void pairGone() {
        withoutPair("THE PAIR undone", () -> {
            CrownTwo x = Courts.plainPair(50);
            x.undo();
            return x;
        });
        withoutPair("a new court behind THE PAIR", () -> {
            CrownTwo x = Courts.plainPair(50);
            x.court(50);
            x.heir(0, 0, 0, 0);
            x.heir(0, 0, 0, 0);
            return x;
        });
        withoutPair("a TEXT read that tells none", () -> {
            CrownTwo x = Courts.plainPair(50);
            Check.read(x, "court 50;heir 0 0;heir 0 0;");
            return x;
        });
        withoutPair("an IMAGE of a time without", () -> {
            CrownTwo x = Courts.heirs(2);
            x.image(1);
            x.pair(0, 1);
            x.from(1);
            return x;
        });
    }

    /** NO: where THE PAIR is told, there is none; what needs none goes on. */
    private static void withoutPair(String when, Supplier<CrownTwo> made) {
        EDGES.no(8, "NO: no PAIR (" + when + ")", made, x -> x.ask(0));
        EDGES.no(14, "NO: no PAIR (" + when + ")", made, x -> x.lift(7));
        EDGES.no(15, "NO: no PAIR (" + when + ")", made, x -> x.both(0));
        EDGES.no(18, "NO: no PAIR (" + when + ")", made, x -> x.most(1, -1));
        EDGES.no(27, "NO: no PAIR (" + when + ")", made, x -> x.spite(0));
        EDGES.no(28, "NO: no PAIR (" + when + ")", made, x -> x.slips(0, 10));
        EDGES.no(29, "NO: no PAIR, though no DAYS are asked for (" + when + ")", made, x -> x.reigns(0, 0));
        EDGES.tells(17, "no PAIR: less 2 alone (" + when + ")", made, x -> x.then(1), 48);
        EDGES.tells(16, "no PAIR: from 50 by 2 it is 8 behind 21 DAYS (" + when + ")", made, x -> x.friends(), 21);
        EDGES.tells(19, "no PAIR: from 50 by 2 it is 10 behind 20 DAYS (" + when + ")", made, x -> x.keep(20), 0);
    }

    private static void number(int promise, String what, int least, int most, Told told) {
        number(promise, what, least, most, CrownTwo.BAD, told);
    }

    private static void number(int promise, String what, int least, int most, int answer, Told told) {
        takenOf(promise, what + " the least, " + least, x -> told.on(x, least), answer);
        takenOf(promise, what + " the most, " + most, x -> told.on(x, most), answer);
        refusedOf(promise, what + " too small, " + (least - 1), x -> told.on(x, least - 1), answer);
        refusedOf(promise, what + " too small by far", x -> told.on(x, Integer.MIN_VALUE), answer);
        if (most == NO_MOST) return;
        refusedOf(promise, what + " too large, " + (most + 1), x -> told.on(x, most + 1), answer);
        refusedOf(promise, what + " too large by far", x -> told.on(x, Integer.MAX_VALUE), answer);
    }

    private static void refusedOf(int promise, String what, Check.Call call, int answer) {
        EDGES.refused(promise, what, Courts::busy, call, answer, 0);
    }

    private static void takenOf(int promise, String what, Check.Call call, int refusal) {
        EDGES.edge(promise, what, c -> {
            CrownTwo x = Courts.busy();
            int[] before = {x.status(0), x.status(1), x.status(2)};
            c.due("refused", call.on(x) == refusal ? 1 : 0, 0);
            for (int i = 0; i < 3; i++) c.due("then status(" + i + ")", x.status(i), before[i]);
        });
    }

    private static void taken(int promise, String what, Check.Call call) {
        EDGES.edge(promise, what, c -> {
            CrownTwo x = new CrownTwo();
            call.on(x);
            for (int i = 0; i < 3; i++) c.due("then status(" + i + ")", x.status(i), 0);
        });
    }

    interface Told {
        long on(CrownTwo x, int v);
    }
}
