/** Promises 22 to 29: note, forget, is, heart, next, spite, slips, reigns. */
public final class NotesTest {
    private static final Check CHECK = new Check();

    public static void main(String[] args) {
        noteAndForget();
        isByOneNote();
        isByAllNotes();
        heart();
        next();
        spite();
        slips();
        reigns();
        CHECK.end("NotesTest");
    }

    private static void noteAndForget() {
        CrownTwo x = Check.court("court 50;heir 0 0;heir 0 0;");
        CHECK.due("forget none", x.forget(), 0);
        CHECK.bad(x, "heir -1", c -> c.note(-1, 0, 0, 0, 0));
        CHECK.bad(x, "heir 2", c -> c.note(2, 0, 0, 0, 0));
        CHECK.bad(x, "act -1", c -> c.note(0, -1, 0, 0, 0));
        CHECK.bad(x, "act 8", c -> c.note(0, 8, 0, 0, 0));
        CHECK.bad(x, "warmth -1", c -> c.note(0, 0, -1, 0, 0));
        CHECK.bad(x, "warmth 100", c -> c.note(0, 0, 100, 0, 0));
        CHECK.bad(x, "day -1", c -> c.note(0, 0, 0, -1, 0));
        CHECK.bad(x, "day 100", c -> c.note(0, 0, 0, 100, 0));
        CHECK.bad(x, "lifted -1", c -> c.note(0, 0, 0, 0, -1));
        CHECK.bad(x, "lifted 2", c -> c.note(0, 0, 0, 0, 2));
        for (int i = 1; i <= 6; i++) CHECK.due("note " + i, x.note(1, 7, 99, 99, 1), i);
        CHECK.due("notes can not be undone", x.count(5), 0);
        CHECK.full(x, "a 7th note", c -> c.note(1, 7, 99, 99, 1));
        CHECK.bad(x, "BAD goes ahead of FULL", c -> c.note(2, 7, 99, 99, 1));
        CHECK.due("forget", x.forget(), 6);
        CHECK.due("none then", x.count(4), 0);
        CHECK.due("a note again", x.note(0, 0, 0, 0, 0), 1);
    }

    private static void isByOneNote() {
        // Act 0 is liked, 1 hated, 2 in neither, 3 in both.
        fits(0, 59, 1, 63);
        fits(0, 79, 1, 63);
        fits(0, 80, 1, 63 - 2 - 16);
        fits(0, 80, 7, 63 - 2);
        fits(1, 30, 1, 0);
        fits(1, 29, 1, 32);
        fits(1, 29, 0, 32 + 16);
        fits(1, 99, 98, 16);
        fits(2, 59, 1, 63 - 8);
        fits(2, 60, 1, 0);
        fits(2, 60, 14, 16);
        fits(3, 59, 1, 63 - 8);
        fits(3, 60, 1, 0);
    }

    private static void fits(int act, int warmth, int day, int lifting) {
        CrownTwo x = Check.court("court 50;heir 3 0;heir 0 0;like 1 0 3;hate 1 1 3;");
        String what = "act " + act + " warmth " + warmth + " day " + day;
        x.note(1, act, warmth, day, 1);
        CHECK.asked(x, what + " lifted", c -> c.is(1), lifting);
        CHECK.asked(x, what + " lifted, of another", c -> c.is(0), 63);
        x.forget();
        x.note(1, act, warmth, day, 0);
        CHECK.asked(x, what + " not lifted", c -> c.is(1), 63 - lifting);
    }

    private static void isByAllNotes() {
        CrownTwo x = Check.court("court 50;heir 0 0;heir 0 0;like 0 0;hate 0 1;");
        CHECK.asked(x, "no notes", c -> c.is(0), 63);
        x.note(0, 0, 90, 1, 0);
        CHECK.asked(x, "sulky or tired", c -> c.is(0), 2 + 16);
        x.note(0, 1, 90, 7, 1);
        CHECK.asked(x, "tired", c -> c.is(0), 16);
        x.note(0, 2, 20, 1, 0);
        CHECK.asked(x, "none", c -> c.is(0), 0);
        CHECK.bad(x, "is(-1)", c -> c.is(-1));
        CHECK.bad(x, "is(2)", c -> c.is(2));
    }

    private static void heart() {
        CrownTwo x = Check.court("court 50;heir 0 0;heir 5 0;like 0 0 1 2;hate 0 2 3;");
        for (int act = 0; act < 8; act++) {
            int a = act;
            CHECK.asked(x, "no notes, act " + act, c -> c.heart(0, a), 7);
        }
        x.note(0, 5, 70, 0, 1);
        CHECK.asked(x, "liked alone", c -> c.heart(0, 5), 1);
        CHECK.asked(x, "all notes, and this one is not so", c -> c.heart(0, 6), 0);
        CHECK.asked(x, "of the other", c -> c.heart(1, 5), 7);
        x.forget();
        x.note(0, 5, 20, 0, 1);
        CHECK.asked(x, "liked or neither", c -> c.heart(0, 5), 5);
        CHECK.asked(x, "any, for this one is so", c -> c.heart(0, 6), 7);
        x.note(0, 5, 70, 0, 0);
        CHECK.asked(x, "neither", c -> c.heart(0, 5), 4);
        x.forget();
        x.note(0, 2, 20, 0, 0);
        CHECK.asked(x, "hated alone, though it is in both", c -> c.heart(0, 2), 2);
        x.note(0, 2, 20, 0, 1);
        CHECK.asked(x, "none", c -> c.heart(0, 2), 0);
        x.note(1, 4, 29, 0, 1);
        CHECK.asked(x, "a forgiver at 29", c -> c.heart(1, 4), 7);
        x.note(1, 4, 30, 0, 0);
        CHECK.asked(x, "a forgiver at 30", c -> c.heart(1, 4), 2);
        CHECK.bad(x, "heart(-1, 0)", c -> c.heart(-1, 0));
        CHECK.bad(x, "heart(2, 0)", c -> c.heart(2, 0));
        CHECK.bad(x, "heart(0, -1)", c -> c.heart(0, -1));
        CHECK.bad(x, "heart(0, 8)", c -> c.heart(0, 8));
    }

    private static void next() {
        // At 20 on day 1: a liked one all lift for, a hated one the forgiver alone, neither all but the proud.
        CrownTwo x = Check.court("court 22;heir 0 0;like 0 0;hate 0 2;");
        x.day(1);
        CHECK.asked(x, "5 to 1, the first of like ones", c -> c.next(0), 1);
        x.note(0, 3, 20, 1, 1);
        CHECK.asked(x, "not the proud: 4 to 1", c -> c.next(0), 2);
        x.note(0, 2, 20, 1, 1);
        CHECK.asked(x, "one kind is left: 0", c -> c.next(0), 0);
        x.note(0, 2, 20, 1, 0);
        CHECK.asked(x, "no kind", c -> c.next(0), CrownTwo.NONE);
        // At 80 on day 0: a liked one the sulky do not lift for, a hated one the tired alone do, neither likewise.
        CrownTwo y = Check.court("court 80;heir 0 0;like 0 6;");
        y.note(0, 6, 85, 1, 0);
        CHECK.asked(y, "sulky or tired: 1 to 1", c -> c.next(0), 0);
        CrownTwo z = new CrownTwo();
        z.court(20);
        z.heir(0, 255, 0, 0);
        CHECK.asked(z, "all alike, the first", c -> c.next(0), 0);
        CHECK.bad(y, "next(-1)", c -> c.next(-1));
        CHECK.bad(y, "next(1)", c -> c.next(1));
    }

    private static void spite() {
        CrownTwo x = Check.court("court 90;heir 3 0;heir 0 0;like 0 0 1 2;like 1 0 1 3;hate 1 1 2 4;hate 0 4;");
        CHECK.no(x, "no pair", c -> c.spite(0));
        CHECK.bad(x, "BAD goes ahead of NO", c -> c.spite(8));
        x.pair(0, 1);
        int[] due = {9, 1, 1, 1, 1, 1, 1, 1};
        for (int act = 0; act < 8; act++) {
            int a = act;
            CHECK.asked(x, "spite(" + act + ")", c -> c.spite(a), due[act]);
        }
        x.ask(0);
        CHECK.asked(x, "DONE or not", c -> c.spite(0), 9);
        CHECK.bad(x, "spite(-1)", c -> c.spite(-1));
    }

    private static void slips() {
        CrownTwo x = Check.court("court 90;heir 0 0;heir 0 0;like 0 0 1;like 1 0 2;");
        CHECK.no(x, "no pair", c -> c.slips(0, 5));
        CHECK.bad(x, "BAD goes ahead of NO", c -> c.slips(8, 5));
        x.pair(0, 1);
        fraction(x, 0, 0, 1, 1);
        fraction(x, 0, 1, 81, 100);
        fraction(x, 0, 5, 1, 4);
        fraction(x, 0, 10, 0, 1);
        fraction(x, 1, 0, 0, 1);
        fraction(x, 1, 1, 9, 100);
        fraction(x, 2, 4, 6, 25);
        fraction(x, 3, 0, 0, 1);
        fraction(x, 3, 3, 9, 100);
        fraction(x, 3, 10, 1, 1);
        fraction(x, 7, 2, 1, 25);
        x.slips(0, 2);
        CHECK.bad(x, "slips(-1, 5)", c -> c.slips(-1, 5));
        CHECK.bad(x, "slips(0, -1)", c -> c.slips(0, -1));
        CHECK.bad(x, "slips(0, 11)", c -> c.slips(0, 11));
        CHECK.due("refused: the fraction stays", x.part(1), 25);
        CHECK.due("nothing DONE by slips", x.count(3), 0);
        x.ask(0);
        CHECK.due("what is DONE slips, too", x.slips(0, 2), 1);
    }

    private static void fraction(CrownTwo x, int act, int c, int above, int below) {
        CHECK.due("slips(" + act + ", " + c + ")", x.slips(act, c), 1);
        CHECK.due("slips(" + act + ", " + c + ") above", x.part(0), above);
        CHECK.due("slips(" + act + ", " + c + ") below", x.part(1), below);
    }

    private static void reigns() {
        CrownTwo x = Check.court("court 50;heir 0 0;heir 0 0;");
        CHECK.no(x, "no pair", c -> c.reigns(0, 1));
        CHECK.bad(x, "BAD goes ahead of NO", c -> c.reigns(-1, 1));
        x.pair(0, 1);
        CHECK.asked(x, "no days", c -> c.reigns(7, 0), 0);
        CHECK.asked(x, "a day", c -> c.reigns(7, 1), 1);
        CHECK.asked(x, "all in 60", c -> c.reigns(999999, 60), 8);
        // From 0 on X is 12345, then 1406932606, by 65536 cut 0 and 21468: acts 0 and 4.
        CHECK.asked(x, "two days from 0", c -> c.reigns(0, 2), 2);
        x.ask(0);
        CHECK.asked(x, "what was DONE counts, is not asked again", c -> c.reigns(0, 1), 1);
        CHECK.asked(x, "and the second day's", c -> c.reigns(0, 2), 2);
        CrownTwo y = Check.court("court 0;heir 0 0;heir 0 0;hate 0 4;pair 0 1;");
        CHECK.asked(y, "act 4 is the second day's", c -> c.reigns(0, 2), 1);
        CHECK.asked(y, "seven at most", c -> c.reigns(1, 60), 7);
        // None lift at 61 nor at 60; on the third day, at 59, both do: acts 0, 4, 4 from seed 0.
        CrownTwo z = Check.court("court 61;heir 0 0;heir 0 0;pair 0 1;");
        CHECK.asked(z, "it cools as days go by: two days", c -> c.reigns(0, 2), 0);
        CHECK.asked(z, "it cools as days go by: three days", c -> c.reigns(0, 3), 1);
        // The tired ones hate all: they lift on days 0 and 7.
        CrownTwo w = Check.court("court 61;heir 4 0;heir 4 0;hate 0 0 1 2 3 4 5 6 7;hate 1 0 1 2 3 4 5 6 7;pair 0 1;");
        CHECK.asked(w, "on day 0", c -> c.reigns(0, 7), 1);
        CHECK.asked(w, "on day 7", c -> c.reigns(0, 8), 2);
        CHECK.bad(y, "seed 1000000", c -> c.reigns(1000000, 1));
        CHECK.bad(y, "n -1", c -> c.reigns(0, -1));
        CHECK.bad(y, "n 61", c -> c.reigns(0, 61));
    }
}
