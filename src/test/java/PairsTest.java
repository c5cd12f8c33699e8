/** Promises 20 and 21: lasts, pairs. */
public final class PairsTest {
    private static final Check CHECK = new Check();

    public static void main(String[] args) {
        lasts();
        bestPair();
        stuck();
        CHECK.end("PairsTest");
    }

    private static void lasts() {
        CrownTwo x = Check.court("court 99;heir 0 5;heir 0 0;heir 1 0;heir 2 0;heir 5 0;pair 3 4;");
        CHECK.asked(x, "1 less a day", c -> c.lasts(0, 1), 90);
        CHECK.asked(x, "1 less a day, the other way", c -> c.lasts(1, 0), 90);
        CHECK.asked(x, "none less a day", c -> c.lasts(0, 2), 91);
        CHECK.asked(x, "5 less a day", c -> c.lasts(1, 3), 18);
        CHECK.asked(x, "11 less a day, the pair itself", c -> c.lasts(3, 4), 9);
        x.day(8);
        CHECK.asked(x, "from 11", c -> c.lasts(0, 1), 2);
        x.day(1);
        CHECK.asked(x, "from 0", c -> c.lasts(0, 2), 0);
        CHECK.bad(x, "alike", c -> c.lasts(2, 2));
        CHECK.bad(x, "p -1", c -> c.lasts(-1, 2));
        CHECK.bad(x, "q -1", c -> c.lasts(2, -1));
        CHECK.bad(x, "p not there", c -> c.lasts(5, 2));
        CHECK.bad(x, "q not there", c -> c.lasts(2, 5));
    }

    private static void bestPair() {
        CrownTwo x = new CrownTwo();
        CHECK.asked(x, "no heirs", c -> c.pairs(0), CrownTwo.NONE);
        x.heir(5, 0, 0, 0);
        CHECK.asked(x, "one heir", c -> c.pairs(0), CrownTwo.NONE);
        x.heir(2, 0, 0, 0);
        CHECK.asked(x, "two heirs", c -> c.pairs(0), 1);
        x.heir(2, 0, 0, 0);
        CHECK.asked(x, "1 and 2 last longer", c -> c.pairs(0), 12);
        x.heir(2, 0, 0, 0);
        CHECK.asked(x, "of like ones the least", c -> c.pairs(0), 12);
        x.heir(0, 0, 0, 0);
        CHECK.asked(x, "1 and 4 last longer", c -> c.pairs(0), 14);
        x.heir(0, 0, 0, 0);
        CHECK.asked(x, "4 and 5 last longest", c -> c.pairs(0), 45);
        x.court(0);
        for (int i = 0; i < 3; i++) x.heir(0, 0, 0, 5 * i);
        CHECK.asked(x, "friends all of them: the least", c -> c.pairs(0), 1);
    }

    private static void stuck() {
        CrownTwo x = Check.court("court 60;heir 0 0;heir 3 0;heir 4 0;like 0 1;like 1 1;hate 2 0 1 2 3 4 5 6 7;");
        CHECK.asked(x, "on day 0 the tired one lifts for all", c -> c.pairs(1), 0);
        x.day(1);
        CHECK.asked(x, "on day 1 it lifts for none", c -> c.pairs(1), 2);
        x.heir(3, 2, 2, 0);
        CHECK.asked(x, "in both is neither", c -> c.pairs(1), 5);
        x.court(0);
        CHECK.asked(x, "no heirs", c -> c.pairs(1), 0);
        x.heir(3, 0, 0, 0);
        CHECK.asked(x, "one heir", c -> c.pairs(1), 0);
        CHECK.bad(x, "pairs(-1)", c -> c.pairs(-1));
        CHECK.bad(x, "pairs(2)", c -> c.pairs(2));
        CrownTwo y = Check.court("court 60;heir 0 0;heir 0 0;like 0 7;like 1 7;pair 0 1;");
        y.ask(7);
        CHECK.asked(y, "DONE or not", c -> c.pairs(1), 0);
        y.court(60);
        y.heir(0, 0, 0, 0);
        y.heir(0, 0, 0, 0);
        CHECK.asked(y, "at 60", c -> c.pairs(1), 1);
        y.day(1);
        CHECK.asked(y, "at 58", c -> c.pairs(1), 0);
    }
}
