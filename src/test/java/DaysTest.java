/** Promises 7 to 13: pair, ask, day, feed, undo, of, makes. */
public final class DaysTest {
    private static final Check CHECK = new Check();
    private static final String THREE = "court 40;heir 0 0;heir 3 0;heir 0 20;";

    public static void main(String[] args) {
        pair();
        ask();
        askKeepsWarmthWithin();
        day();
        feed();
        undo();
        undoEightAtMost();
        of();
        makes();
        CHECK.end("DaysTest");
    }

    private static void pair() {
        CrownTwo x = Check.court(THREE);
        CHECK.due("pair(2, 0)", x.pair(2, 0), 1);
        CHECK.due("the first", x.of(2, 4), 1);
        CHECK.due("the second", x.of(0, 4), 2);
        CHECK.due("may be undone", x.count(5), 1);
        CHECK.due("pair(0, 1)", x.pair(0, 1), 1);
        CHECK.due("not of it now", x.of(2, 4), 0);
        CHECK.bad(x, "alike", c -> c.pair(1, 1));
        CHECK.bad(x, "p -1", c -> c.pair(-1, 1));
        CHECK.bad(x, "q -1", c -> c.pair(1, -1));
        CHECK.bad(x, "p not there", c -> c.pair(3, 1));
        CHECK.bad(x, "q not there", c -> c.pair(1, 3));
    }

    private static void ask() {
        CrownTwo x = Check.court(THREE + "like 1 2;hate 2 4;");
        CHECK.no(x, "no pair", c -> c.ask(2));
        CHECK.bad(x, "BAD goes ahead of NO", c -> c.ask(8));
        x.pair(0, 1);
        CHECK.bad(x, "act -1", c -> c.ask(-1));
        CHECK.due("both lift", x.ask(2), 3);
        CHECK.due("both lift: WARMTH", x.count(2), 38);
        CHECK.due("both lift: DONE", x.count(3), 1);
        CHECK.due("both lift: the DAY stays", x.count(1), 0);
        CHECK.no(x, "DONE", c -> c.ask(2));
        CHECK.due("the first alone", x.ask(3), 1);
        CHECK.due("the first alone: WARMTH", x.count(2), 43);
        CHECK.due("not DONE: it may be asked again", x.ask(3), 1);
        x.pair(1, 0);
        CHECK.due("the second alone", x.ask(3), 2);
        CHECK.due("the second alone: WARMTH", x.count(2), 53);
        x.pair(1, 2);
        CHECK.due("none", x.ask(4), 0);
        CHECK.due("none: WARMTH", x.count(2), 54);
        CHECK.due("none: DONE", x.count(3), 1);
    }

    private static void askKeepsWarmthWithin() {
        CrownTwo x = Check.court("court 1;heir 0 0;heir 0 0;pair 0 1;");
        x.ask(0);
        CHECK.due("WARMTH is not below 0", x.count(2), 0);
        CrownTwo y = Check.court("court 97;heir 0 0;heir 0 0;like 0 1;pair 0 1;");
        y.ask(1);
        CHECK.due("WARMTH is not above 99", y.count(2), 99);
        y.ask(0);
        CHECK.due("WARMTH is still 99", y.count(2), 99);
    }

    private static void day() {
        CrownTwo x = Check.court(THREE);
        CHECK.due("no pair, 3 days", x.day(3), 34);
        CHECK.due("the DAY", x.count(1), 3);
        CHECK.due("together one that may be undone", x.count(5), 1);
        x.pair(0, 2);
        CHECK.due("4 and 0 less 2", x.day(5), 44);
        CHECK.due("not above 99", x.day(60), 99);
        CHECK.due("the DAY behind 68", x.count(1), 68);
        x.pair(0, 1);
        CHECK.due("0 and 0 less 2", x.day(1), 97);
        CHECK.due("not below 0", x.day(60), 0);
        CHECK.due("the DAY behind 129", x.count(1), 129);
        CHECK.bad(x, "day(0)", c -> c.day(0));
        CHECK.bad(x, "day(61)", c -> c.day(61));
        CHECK.bad(x, "day(-1)", c -> c.day(-1));
        CrownTwo y = Check.court("court 98;heir 0 20;heir 5 0;heir 2 0;pair 0 1;");
        CHECK.due("4 and -6 less 2", y.day(2), 90);
        y.pair(2, 1);
        CHECK.due("-3 and -6 less 2", y.day(2), 68);
    }

    private static void feed() {
        CrownTwo x = new CrownTwo();
        CHECK.due("feed(1)", x.feed(1), 51);
        CHECK.due("feed(20)", x.feed(20), 71);
        CHECK.due("feed(20) again", x.feed(20), 91);
        CHECK.due("99 kept", x.feed(20), 99);
        CHECK.due("may be undone", x.count(5), 4);
        CHECK.bad(x, "feed(0)", c -> c.feed(0));
        CHECK.bad(x, "feed(21)", c -> c.feed(21));
        CHECK.bad(x, "feed(-1)", c -> c.feed(-1));
    }

    private static void undo() {
        CrownTwo x = Check.court(THREE);
        CHECK.no(x, "nothing to undo", c -> c.undo());
        x.day(4);
        x.pair(0, 2);
        x.note(0, 0, 0, 0, 1);
        x.ask(5);
        x.day(2);
        x.feed(9);
        CHECK.due("WARMTH ahead of it", x.count(2), 43);
        CHECK.due("undo a feed", x.undo(), 6);
        CHECK.due("WARMTH", x.count(2), 34);
        CHECK.due("undo days", x.undo(), 4);
        CHECK.due("DONE ones", x.count(3), 1);
        CHECK.due("undo an act", x.undo(), 4);
        CHECK.due("DONE none", x.count(3), 0);
        CHECK.due("WARMTH as ahead of the act", x.count(2), 32);
        CHECK.due("a pair still", x.of(2, 4), 2);
        CHECK.due("undo a pair", x.undo(), 4);
        CHECK.due("no pair", x.of(2, 4), 0);
        CHECK.no(x, "lift without a pair", c -> c.lift(0));
        CHECK.due("undo the first days", x.undo(), 0);
        CHECK.due("WARMTH at first", x.count(2), 40);
        CHECK.due("notes are not undone", x.count(4), 1);
        CHECK.no(x, "nothing more", c -> c.undo());
        x.day(1);
        x.heir(0, 0, 0, 0);
        CHECK.no(x, "behind an heir none", c -> c.undo());
    }

    private static void undoEightAtMost() {
        CrownTwo x = new CrownTwo();
        for (int i = 1; i <= 10; i++) {
            x.day(1);
            CHECK.due("may be undone behind " + i, x.count(5), Math.min(i, 8));
        }
        for (int i = 9; i >= 2; i--) CHECK.due("undo to " + i, x.undo(), i);
        CHECK.no(x, "the ninth", c -> c.undo());
        CHECK.due("WARMTH on day 2", x.count(2), 46);
    }

    private static void of() {
        CrownTwo x = new CrownTwo();
        x.heir(4, 129, 135, 13);
        x.heir(5, 0, 255, 20);
        int[] due = {4, 129, 135, 13, 0};
        for (int what = 0; what < 5; what++) {
            int w = what;
            CHECK.asked(x, "of(0, " + what + ")", c -> c.of(0, w), due[what]);
        }
        x.pair(1, 0);
        CHECK.asked(x, "of(1, 4)", c -> c.of(1, 4), 1);
        CHECK.asked(x, "of(0, 4)", c -> c.of(0, 4), 2);
        CHECK.bad(x, "of(2, 0)", c -> c.of(2, 0));
        CHECK.bad(x, "of(-1, 4)", c -> c.of(-1, 4));
        CHECK.bad(x, "of(0, 5)", c -> c.of(0, 5));
        CHECK.bad(x, "of(0, -1)", c -> c.of(0, -1));
    }

    private static void makes() {
        int[][] due = {
            {0, 0, 1, 1, 3, 4}, {1, 1, 2, 2, 4, 5}, {-3, -3, -2, -2, 0, 1},
            {0, 0, 1, 1, 3, 4}, {0, 0, 1, 1, 2, 2}, {-6, -6, -4, -4, 0, 2}};
        int[] tempers = {0, 4, 5, 9, 19, 20};
        for (int kind = 0; kind < 6; kind++) {
            CrownTwo x = new CrownTwo();
            for (int p = 0; p < 6; p++) {
                int heir = p;
                x.heir(kind, 0, 0, tempers[p]);
                CHECK.asked(x, "kind " + kind + " temper " + tempers[p], c -> c.makes(heir), due[kind][p]);
            }
        }
        CrownTwo x = Check.court("court 1;heir 0 0;");
        CHECK.refused(x, "makes(1)", c -> c.makes(1), -100, 0);
        CHECK.refused(x, "makes(-1)", c -> c.makes(-1), -100, 0);
    }
}
