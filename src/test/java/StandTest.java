/** Promises 30 to 35: part, image, from, status, count, digest; and the constants. */
public final class StandTest {
    private static final Check CHECK = new Check();

    public static void main(String[] args) {
        constants();
        part();
        images();
        imagesKeepWhatMayBeUndone();
        imagesKeepNothingElse();
        status();
        count();
        digest();
        CHECK.end("StandTest");
    }

    private static void constants() {
        CHECK.due("NONE", CrownTwo.NONE, -1);
        CHECK.due("BAD", CrownTwo.BAD, -2);
        CHECK.due("NO", CrownTwo.NO, -3);
        CHECK.due("FULL", CrownTwo.FULL, -4);
    }

    private static void part() {
        CrownTwo x = Check.court("court 1;heir 0 0;heir 0 0;pair 0 1;");
        CHECK.asked(x, "above at first", c -> c.part(0), 0);
        CHECK.asked(x, "below at first", c -> c.part(1), 1);
        x.slips(0, 4);
        CHECK.asked(x, "above", c -> c.part(0), 9);
        CHECK.asked(x, "below", c -> c.part(1), 25);
        CHECK.bad(x, "part(-1)", c -> c.part(-1));
        CHECK.bad(x, "part(2)", c -> c.part(2));
    }

    private static void images() {
        CrownTwo x = Check.court("court 30;heir 1 2;heir 2 3;heir 3 4;like 0 1;hate 2 3;pair 2 0;");
        x.note(1, 2, 3, 4, 1);
        x.ask(7);
        x.day(3);
        CHECK.no(x, "from(0), none kept", c -> c.from(0));
        CHECK.no(x, "from(1), none kept", c -> c.from(1));
        CHECK.asked(x, "image(1)", c -> c.image(1), 1);
        CHECK.no(x, "from(0), none kept still", c -> c.from(0));
        long first = x.digest();
        x.heir(0, 9, 8, 7);
        x.forget();
        x.day(1);
        CHECK.asked(x, "image(0)", c -> c.image(0), 1);
        long second = x.digest();
        x.court(5);
        x.heir(0, 0, 0, 0);
        x.note(0, 7, 6, 5, 0);
        CHECK.due("from(1)", x.from(1), 1);
        CHECK.due("as kept first", x.digest(), first);
        x.feed(5);
        x.note(0, 0, 0, 0, 0);
        CHECK.due("from(0)", x.from(0), 1);
        CHECK.due("as kept second", x.digest(), second);
        CHECK.due("from(1) again", x.from(1), 1);
        CHECK.due("an image is not changed by what goes on from it", x.digest(), first);
        x.feed(1);
        CHECK.due("image(1) again", x.image(1), 1);
        long third = x.digest();
        x.court(0);
        x.from(1);
        CHECK.due("the later one is kept", x.digest(), third);
        CHECK.bad(x, "image(-1)", c -> c.image(-1));
        CHECK.bad(x, "image(2)", c -> c.image(2));
        CHECK.bad(x, "from(-1)", c -> c.from(-1));
        CHECK.bad(x, "from(2)", c -> c.from(2));
    }

    private static void imagesKeepWhatMayBeUndone() {
        CrownTwo x = new CrownTwo();
        x.day(5);
        x.feed(3);
        x.image(0);
        for (int i = 0; i < 9; i++) x.day(1);
        x.from(0);
        CHECK.due("may be undone", x.count(5), 2);
        CHECK.due("the feeding", x.undo(), 5);
        CHECK.due("WARMTH", x.count(2), 40);
        CHECK.due("the days", x.undo(), 0);
        CHECK.due("WARMTH at first", x.count(2), 50);
        CHECK.no(x, "no more", c -> c.undo());
    }

    private static void imagesKeepNothingElse() {
        CrownTwo x = Check.court("court 1;heir 0 0;heir 0 0;pair 0 1;");
        x.type(65);
        x.image(0);
        x.type(66);
        x.slips(0, 1);
        x.day(0);
        x.from(0);
        CHECK.due("the text goes on", x.count(6), 2);
        CHECK.due("the fraction goes on", x.part(0), 81);
        CHECK.due("status goes on", x.status(0), 1);
    }

    private static void status() {
        CrownTwo x = new CrownTwo();
        x.day(0);
        x.makes(0);
        x.most(0, 0);
        x.part(2);
        x.undo();
        x.lift(0);
        for (int i = 0; i < 7; i++) x.heir(0, 0, 0, 0);
        CHECK.due("BAD", x.status(0), 4);
        CHECK.due("NO", x.status(1), 2);
        CHECK.due("FULL", x.status(2), 1);
        CHECK.refused(x, "status(3)", c -> c.status(3), -1, 0);
        CHECK.refused(x, "status(-1)", c -> c.status(-1), -1, 0);
        CHECK.due("BAD then", x.status(0), 6);
        x.read();
        x.friends();
        x.keep(60);
        CHECK.due("a fault and NONE count as nothing", x.status(0) + x.status(1) + x.status(2), 9);
    }

    private static void count() {
        CrownTwo x = Check.court("court 30;heir 0 0;heir 0 0;heir 0 0;pair 0 1;");
        x.ask(1);
        x.ask(2);
        x.day(4);
        x.note(0, 0, 0, 0, 0);
        x.type(32);
        int[] due = {3, 4, 18, 2, 1, 3, 1};
        for (int what = 0; what < due.length; what++) {
            int w = what;
            CHECK.asked(x, "count(" + what + ")", c -> c.count(w), due[what]);
        }
        CHECK.bad(x, "count(-1)", c -> c.count(-1));
        CHECK.bad(x, "count(7)", c -> c.count(7));
    }

    private static void digest() {
        CrownTwo x = new CrownTwo();
        CHECK.due("new", x.digest(), Check.fold(0, 0, 50, 0, 0, 0, 0, 0, -1, -1, 0, 1));
        x.heir(1, 2, 3, 4);
        x.heir(5, 250, 251, 19);
        x.pair(1, 0);
        x.ask(6);
        x.day(9);
        x.type(70);
        x.note(0, 1, 2, 3, 1);
        x.note(1, 7, 98, 97, 0);
        x.slips(0, 10);
        // 1 and 0 less 2: from 48 on 1 less a day. Both hate act 0, so both must slip.
        CHECK.due("pair, act, days", x.digest(), Check.fold(
                2, 9, 39, 1, 2, 3, 1, 64, 1, 0,
                1, 2, 3, 4, 5, 250, 251, 19,
                0, 1, 2, 3, 1, 1, 7, 98, 97, 0,
                1, 1));
        x.slips(0, 2);
        CHECK.due("the fraction", x.digest(), Check.fold(
                2, 9, 39, 1, 2, 3, 1, 64, 1, 0,
                1, 2, 3, 4, 5, 250, 251, 19,
                0, 1, 2, 3, 1, 1, 7, 98, 97, 0,
                1, 25));
    }
}
