/** Promises 14 to 19: lift, both, friends, then, most, keep. */
public final class LiftTest {
    private static final Check CHECK = new Check();

    public static void main(String[] args) {
        liftByKinds();
        lift();
        both();
        friends();
        then();
        mostInOrder();
        mostByBargains();
        mostRefused();
        keep();
        CHECK.end("LiftTest");
    }

    /** Each row: the least WARMTH at which one does not lift for what is liked, is neither, is hated (100: one always does). */
    private static void liftByKinds() {
        int[][] calmDay = {
            {100, 60, 0}, {80, 60, 0}, {100, 60, 0}, {100, 0, 0}, {80, 60, 0}, {100, 60, 30}};
        for (int kind = 0; kind < 6; kind++) {
            for (int act = 0; act < 4; act++) {
                // Acts 2 and 3 are neither: one is in none, one in both.
                int till = calmDay[kind][act == 0 ? 0 : act == 1 ? 2 : 1];
                for (int w = 0; w < 100; w++) {
                    liftOnce(kind, act, w, 0, w < till || kind == 4);
                    if (w % 10 == 0 || w % 10 == 9) {
                        liftOnce(kind, act, w, 1, w < till);
                        liftOnce(kind, act, w, 6, w < till);
                        liftOnce(kind, act, w, 7, w < till || kind == 4);
                        liftOnce(kind, act, w, 14, w < till || kind == 4);
                    }
                }
            }
        }
    }

    private static void liftOnce(int kind, int act, int warmth, int days, boolean lifts) {
        CrownTwo x = new CrownTwo();
        x.court(warmth);
        x.heir(kind, 1 + 8, 2 + 8, 0);
        x.heir(0, 0, 255, 0);
        // A day takes 2 away, and what it takes is given back; so the warmth is as told on a later day.
        for (int i = 0; i < days; i++) {
            x.day(1);
            x.feed(2);
        }
        if (x.count(2) > warmth) x.undo();
        if (x.count(2) != warmth) return;
        x.pair(0, 1);
        String what = "kind " + kind + " act " + act + " warmth " + warmth + " day " + days;
        CHECK.due(what, x.lift(act), lifts ? 1 : 0);
        x.pair(1, 0);
        CHECK.due(what + ", as the second", x.lift(act), lifts ? 2 : 0);
    }

    private static void lift() {
        CrownTwo x = Check.court("court 59;heir 0 0;heir 3 0;like 1 0;hate 0 1;");
        CHECK.no(x, "no pair", c -> c.lift(0));
        CHECK.bad(x, "BAD goes ahead of NO", c -> c.lift(8));
        x.pair(0, 1);
        CHECK.asked(x, "lift(0)", c -> c.lift(0), 3);
        CHECK.asked(x, "lift(1)", c -> c.lift(1), 0);
        CHECK.asked(x, "lift(7)", c -> c.lift(7), 1);
        x.ask(0);
        CHECK.asked(x, "lift of what is DONE", c -> c.lift(0), 3);
        CHECK.bad(x, "lift(-1)", c -> c.lift(-1));
    }

    private static void both() {
        // 4 and 0 less 2: 2 more a day, from 55 on; the tired one hates all but lifts on days 0, 7, 14 ..
        CrownTwo x = Check.court("court 55;heir 0 20;heir 4 0;hate 1 0 1 2 3 4 5 6 7;like 0 5;");
        CHECK.no(x, "no pair", c -> c.both(0));
        CHECK.bad(x, "BAD goes ahead of NO", c -> c.both(61));
        x.pair(1, 0);
        CHECK.asked(x, "both(0)", c -> c.both(0), 255);
        CHECK.asked(x, "both(1)", c -> c.both(1), 0);
        CHECK.asked(x, "both(7)", c -> c.both(7), 32);
        CHECK.asked(x, "both(56)", c -> c.both(56), 32);
        CHECK.asked(x, "both(60)", c -> c.both(60), 0);
        CHECK.bad(x, "both(-1)", c -> c.both(-1));
        x.ask(3);
        CHECK.asked(x, "both(0), DONE or not", c -> c.both(0), 255);
        x.day(6);
        CHECK.asked(x, "both(1) from day 6", c -> c.both(1), 32);
        CrownTwo y = Check.court("court 63;heir 0 0;heir 0 0;pair 0 1;");
        CHECK.asked(y, "both(1), 61", c -> c.both(1), 0);
        CHECK.asked(y, "both(2), 59", c -> c.both(2), 255);
    }

    private static void friends() {
        CrownTwo x = new CrownTwo();
        CHECK.asked(x, "50 by 2", c -> c.friends(), 21);
        x.court(9);
        CHECK.asked(x, "9", c -> c.friends(), 0);
        x.court(10);
        CHECK.asked(x, "10", c -> c.friends(), 1);
        x.court(99);
        CHECK.asked(x, "99 by 2", c -> c.friends(), 45);
        CrownTwo y = Check.court("court 99;heir 0 5;heir 0 0;heir 1 0;heir 2 0;pair 0 1;");
        CHECK.asked(y, "99 by 1", c -> c.friends(), 90);
        y.pair(0, 2);
        CHECK.asked(y, "it stays", c -> c.friends(), CrownTwo.NONE);
        y.pair(1, 3);
        CHECK.asked(y, "99 by 5", c -> c.friends(), 18);
    }

    private static void then() {
        CrownTwo x = new CrownTwo();
        CHECK.asked(x, "then(0)", c -> c.then(0), 50);
        CHECK.asked(x, "then(1)", c -> c.then(1), 48);
        CHECK.asked(x, "then(90)", c -> c.then(90), 0);
        CHECK.bad(x, "then(-1)", c -> c.then(-1));
        CHECK.bad(x, "then(91)", c -> c.then(91));
        CrownTwo y = Check.court("court 90;heir 0 20;heir 0 20;pair 0 1;");
        CHECK.asked(y, "6 more", c -> c.then(1), 96);
        CHECK.asked(y, "99 kept", c -> c.then(90), 99);
    }

    private static void mostInOrder() {
        CrownTwo x = Check.court("court 30;heir 0 0;heir 0 0;hate 0 0 1;pair 0 1;");
        int[] due = {2, 3, 4, 5};
        CHECK.asked(x, "most(4, -1)", c -> c.most(4, -1), 4);
        for (int i = 0; i < 4; i++) {
            int at = i;
            CHECK.asked(x, "most(4, " + i + ")", c -> c.most(4, at), due[i]);
        }
        x.ask(3);
        CHECK.asked(x, "DONE ones count no more", c -> c.most(1, -1), 1);
        CHECK.asked(x, "2 first", c -> c.most(2, 0), 2);
        CHECK.asked(x, "then 4, for 3 is DONE", c -> c.most(2, 1), 4);
        for (int act = 4; act < 8; act++) x.ask(act);
        CHECK.asked(x, "one rests", c -> c.most(3, -1), 1);
        CHECK.asked(x, "one rests: 0 first", c -> c.most(3, 0), 0);
        CHECK.asked(x, "one rests: 0 again", c -> c.most(3, 1), 0);
        CHECK.asked(x, "one rests: 2 last", c -> c.most(3, 2), 2);
    }

    private static void mostByBargains() {
        // At 61 neither lifts; asking makes it worse; a day without an act brings it to 59.
        CrownTwo x = Check.court("court 61;heir 0 0;heir 0 0;pair 0 1;");
        CHECK.asked(x, "none in a day", c -> c.most(1, -1), 0);
        CHECK.asked(x, "none in a day: 0 asked in vain", c -> c.most(1, 0), 0);
        CHECK.asked(x, "one in two", c -> c.most(2, -1), 1);
        CHECK.asked(x, "one in two: none asked, or 60", c -> c.most(2, 0), 8);
        CHECK.asked(x, "one in two: then 0", c -> c.most(2, 1), 0);
        CHECK.asked(x, "three in four", c -> c.most(4, -1), 3);
        // 6 more a day: what is liked may wait, what is neither must come while it is below 60.
        CrownTwo w = Check.court("court 59;heir 0 20;heir 0 20;like 0 0;like 1 0;pair 0 1;");
        CHECK.asked(w, "two in two", c -> c.most(2, -1), 2);
        CHECK.asked(w, "two in two: first 1", c -> c.most(2, 0), 1);
        CHECK.asked(w, "two in two: then 0", c -> c.most(2, 1), 0);
        // All that may be asked is DONE: none is asked.
        CrownTwo y = Check.court("court 59;heir 0 0;heir 0 0;pair 0 1;");
        for (int act = 0; act < 8; act++) y.ask(act);
        CHECK.asked(y, "all DONE", c -> c.most(2, -1), 0);
        CHECK.asked(y, "all DONE: none asked", c -> c.most(2, 0), 8);
        CHECK.asked(y, "all DONE: none asked again", c -> c.most(2, 1), 8);
    }

    private static void mostRefused() {
        CrownTwo x = Check.court("court 59;heir 0 0;heir 0 0;");
        CHECK.refused(x, "most(0, -1)", c -> c.most(0, -1), -10, 0);
        CHECK.refused(x, "most(5, -1)", c -> c.most(5, -1), -10, 0);
        CHECK.refused(x, "most(1, -2)", c -> c.most(1, -2), -10, 0);
        CHECK.no(x, "no pair", c -> c.most(1, -1));
        CHECK.no(x, "no pair, nor so many", c -> c.most(1, 1));
        x.pair(0, 1);
        CHECK.refused(x, "most(-1, 0)", c -> c.most(-1, 0), -10, 0);
        CHECK.asked(x, "not so many in 1", c -> c.most(1, 1), -5);
        CHECK.asked(x, "not so many in 4", c -> c.most(4, 4), -5);
        CHECK.asked(x, "not by far", c -> c.most(4, Integer.MAX_VALUE), -5);
    }

    private static void keep() {
        CrownTwo x = new CrownTwo();
        CHECK.asked(x, "50 for 20", c -> c.keep(20), 0);
        CHECK.asked(x, "50 for 21", c -> c.keep(21), 2);
        CHECK.asked(x, "50 for 44", c -> c.keep(44), 48);
        CHECK.asked(x, "50 for 45", c -> c.keep(45), CrownTwo.NONE);
        x.court(0);
        CHECK.asked(x, "0 for 1", c -> c.keep(1), 12);
        CHECK.asked(x, "0 for 44", c -> c.keep(44), 98);
        CHECK.bad(x, "keep(0)", c -> c.keep(0));
        CHECK.bad(x, "keep(61)", c -> c.keep(61));
        CHECK.bad(x, "keep(-1)", c -> c.keep(-1));
        // It grows by itself, but now they are friends: 10 is wanted now.
        CrownTwo y = Check.court("court 3;heir 0 20;heir 0 20;pair 0 1;");
        CHECK.asked(y, "friends now", c -> c.keep(60), 7);
        // At 99 it is kept at most: 11 less a day, 8 days.
        CrownTwo z = Check.court("court 99;heir 2 0;heir 5 0;pair 0 1;");
        CHECK.asked(z, "99 by 11, 8 days", c -> c.keep(8), 0);
        CHECK.asked(z, "99 by 11, 9 days", c -> c.keep(9), CrownTwo.NONE);
    }
}
