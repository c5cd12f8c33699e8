/** Promises 1 to 6: a new object, court, heir, type, clear, read. */
public final class CourtTest {
    private static final Check CHECK = new Check();

    public static void main(String[] args) {
        newObject();
        court();
        heir();
        typeAndClear();
        readTakesThePlaceOfAll();
        readItems();
        readFaults();
        CHECK.end("CourtTest");
    }

    private static void newObject() {
        CrownTwo x = new CrownTwo();
        int[] counts = {0, 0, 50, 0, 0, 0, 0};
        for (int what = 0; what < counts.length; what++) {
            CHECK.due("new: count(" + what + ")", x.count(what), counts[what]);
        }
        for (int what = 0; what < 3; what++) CHECK.due("new: status(" + what + ")", x.status(what), 0);
        CHECK.due("new: part(0)", x.part(0), 0);
        CHECK.due("new: part(1)", x.part(1), 1);
        CHECK.no(x, "new: undo()", c -> c.undo());
        CHECK.no(x, "new: lift(0)", c -> c.lift(0));
        CHECK.no(x, "new: from(0)", c -> c.from(0));
        CHECK.no(x, "new: from(1)", c -> c.from(1));
        CHECK.bad(x, "new: of(0, 0)", c -> c.of(0, 0));
    }

    private static void court() {
        CrownTwo x = Check.court("court 20;heir 0 0;heir 0 0;pair 0 1;");
        Check.type(x, "abc");
        x.note(0, 0, 0, 0, 0);
        x.ask(3);
        x.day(2);
        x.slips(0, 5);
        x.image(1);
        x.court(-1);
        CHECK.due("court(99) ahead of it two heirs", x.court(99), 2);
        int[] counts = {0, 0, 99, 0, 0, 0, 3};
        for (int what = 0; what < counts.length; what++) {
            CHECK.due("court(99): count(" + what + ")", x.count(what), counts[what]);
        }
        CHECK.due("court(99): digest()", x.digest(), Check.fold(0, 0, 99, 0, 0, 0, 3, 0, -1, -1, 1, 4));
        CHECK.due("court(99): the fraction stays", x.part(1), 4);
        CHECK.due("court(99): status stays", x.status(0), 1);
        CHECK.no(x, "court(99): no pair", c -> c.lift(0));
        CHECK.no(x, "court(99): nothing to undo", c -> c.undo());
        CHECK.due("court(99): images stay", x.from(1), 1);
        CHECK.due("court(99): the image's heirs", x.count(0), 2);
        CHECK.due("court(0)", x.court(0), 2);
        CHECK.due("court(0) again", x.court(0), 0);
        CHECK.due("court(0): WARMTH", x.count(2), 0);
        CHECK.bad(x, "court(-1)", c -> c.court(-1));
        CHECK.bad(x, "court(100)", c -> c.court(100));
        CHECK.bad(x, "court(least)", c -> c.court(Integer.MIN_VALUE));
    }

    private static void heir() {
        CrownTwo x = new CrownTwo();
        for (int p = 0; p < 6; p++) {
            x.feed(1);
            CHECK.due("heir " + p, x.heir(p, 255 - p, p, 20 - p), p);
            CHECK.due("heir " + p + ": none may be undone", x.count(5), 0);
            CHECK.due("heir " + p + ": KIND", x.of(p, 0), p);
            CHECK.due("heir " + p + ": LIKES as told", x.of(p, 1), 255 - p);
            CHECK.due("heir " + p + ": HATES as told", x.of(p, 2), p);
            CHECK.due("heir " + p + ": TEMPER", x.of(p, 3), 20 - p);
        }
        x.feed(1);
        CHECK.full(x, "a 7th heir", c -> c.heir(0, 0, 0, 0));
        CHECK.bad(x, "BAD goes ahead of FULL", c -> c.heir(6, 0, 0, 0));
        CHECK.due("a heir refused: what may be undone stays", x.count(5), 1);
        CrownTwo y = new CrownTwo();
        CHECK.bad(y, "kind -1", c -> c.heir(-1, 0, 0, 0));
        CHECK.bad(y, "kind 6", c -> c.heir(6, 0, 0, 0));
        CHECK.bad(y, "likes -1", c -> c.heir(0, -1, 0, 0));
        CHECK.bad(y, "likes 256", c -> c.heir(0, 256, 0, 0));
        CHECK.bad(y, "hates -1", c -> c.heir(0, 0, -1, 0));
        CHECK.bad(y, "hates 256", c -> c.heir(0, 0, 256, 0));
        CHECK.bad(y, "temper -1", c -> c.heir(0, 0, 0, -1));
        CHECK.bad(y, "temper 21", c -> c.heir(0, 0, 0, 21));
    }

    private static void typeAndClear() {
        CrownTwo x = new CrownTwo();
        CHECK.due("type(0)", x.type(0), 1);
        CHECK.due("type(127)", x.type(127), 2);
        CHECK.bad(x, "type(-1)", c -> c.type(-1));
        CHECK.bad(x, "type(128)", c -> c.type(128));
        for (int i = 3; i <= 150; i++) CHECK.due("type, byte " + i, x.type(32), i);
        CHECK.full(x, "type, byte 151", c -> c.type(32));
        CHECK.bad(x, "type: BAD goes ahead of FULL", c -> c.type(128));
        CHECK.due("clear()", x.clear(), 150);
        CHECK.due("clear() again", x.clear(), 0);
        CHECK.due("count(6)", x.count(6), 0);
        CHECK.due("type behind clear", x.type(32), 1);
    }

    private static void readTakesThePlaceOfAll() {
        CrownTwo x = Check.court("court 20;heir 0 0;heir 0 0;pair 0 1;");
        x.note(0, 0, 0, 0, 0);
        x.ask(3);
        x.day(2);
        x.slips(0, 5);
        x.image(0);
        x.court(100);
        CHECK.due("read()", Check.read(x, "court 7;heir 2 11;"), 2);
        int[] counts = {1, 0, 7, 0, 0, 0, 18};
        for (int what = 0; what < counts.length; what++) {
            CHECK.due("read: count(" + what + ")", x.count(what), counts[what]);
        }
        CHECK.no(x, "read: no pair", c -> c.lift(0));
        CHECK.due("read: the fraction stays", x.part(1), 4);
        CHECK.due("read: status stays", x.status(0), 1);
        CHECK.due("read: KIND", x.of(0, 0), 2);
        CHECK.due("read: TEMPER", x.of(0, 3), 11);
        CHECK.due("read: LIKES", x.of(0, 1), 0);
        CHECK.due("read: HATES", x.of(0, 2), 0);
        CHECK.due("read again", x.read(), 2);
        CHECK.due("read: images stay", x.from(0), 1);
        CHECK.due("read: the image's heirs", x.count(0), 2);
    }

    private static void readItems() {
        CrownTwo x = new CrownTwo();
        CHECK.due("one item", Check.read(x, "court 99;"), 1);
        CHECK.due("one item: WARMTH", x.count(2), 99);
        CHECK.due("blanks", Check.read(x, "  court  05  ;  heir 5 20 ; "), 2);
        CHECK.due("blanks: WARMTH", x.count(2), 5);
        CHECK.due("no blanks where none is needed", Check.read(x, "court6;heir1 2;"), 2);
        String two = "court 1;heir 0 0;heir 1 0;";
        CHECK.due("likes", Check.read(x, two + "like 1 0 7 07 3;hate 1 1 7;hate 0 2;"), 6);
        CHECK.due("likes: LIKES", x.of(1, 1), 1 + 8 + 128);
        CHECK.due("likes: HATES", x.of(1, 2), 2 + 128);
        CHECK.due("likes: the other's", x.of(0, 2), 4);
        CHECK.due("those alone", Check.read(x, two + "like 0 1 2;like 0 3;hate 0 1;hate 0;"), 7);
        CHECK.due("those alone: LIKES", x.of(0, 1), 8);
        CHECK.due("those alone: HATES", x.of(0, 2), 0);
        CHECK.due("a pair", Check.read(x, two + "pair 0 1;heir 2 0;pair 2 1;"), 6);
        CHECK.due("a pair: the first", x.of(2, 4), 1);
        CHECK.due("a pair: the second", x.of(1, 4), 2);
        CHECK.due("a pair: not of it", x.of(0, 4), 0);
        CHECK.no(x, "a pair: nothing to undo", c -> c.undo());
        String six = "heir 0 0;heir 1 1;heir 2 2;heir 3 3;heir 4 4;heir 5 5;";
        CHECK.due("six heirs", Check.read(x, "court 1;" + six), 7);
        CHECK.due("six heirs: count(0)", x.count(0), 6);
    }

    private static void readFaults() {
        fault("", 0);
        fault(" ", 1);
        fault("court", 5);
        fault("court ", 6);
        fault("court 1", 7);
        fault("court 100;", 6);
        fault("court 1 1;", 8);
        fault("court x;", 6);
        fault("court ;", 6);
        fault("cour 1;", 0);
        fault("courts 1;", 0);
        fault("courtz 1;", 0);
        fault("courta 1;", 0);
        fault("xourt 1;", 0);
        fault("Court 1;", 0);
        fault("courT 1;", 0);
        fault("court\t1;", 5);
        fault(" 1;", 1);
        fault(";", 0);
        fault("heir 0 0;", 0);
        String c = "court 1;";
        fault(c + ";", 8);
        fault(c + "court 1;", 8);
        fault(c + "king 1;", 8);
        fault(c + "hei", 8);
        fault(c + "xeir 0 0;", 8);
        fault(c + "heit 0 0;", 8);
        fault(c + "1;", 8);
        fault(c + "-", 8);
        fault(c + "heir", 12);
        fault(c + "heir ;", 13);
        fault(c + "heir 6 0;", 13);
        fault(c + "heir 5 21;", 15);
        fault(c + "heir 5 020;", 15);
        fault(c + "heir 5;", 14);
        fault(c + "heir 5 20 1;", 18);
        fault(c + "heir 5 20heir 0 0;", 17);
        fault(c + "like 0;", 13);
        fault(c + "pair 0", 13);
        String two = "court 1;heir 0 0;heir 0 0;";
        fault(two + "like 2 1;", 31);
        fault(two + "like 1 8;", 33);
        fault(two + "hate 1 1 2 8;", 37);
        fault(two + "hate 1 1 2 003;", 37);
        fault(two + "hate 1 1 2 ", 37);
        fault(two + "hate ;", 31);
        fault(two + "like 1 1 x;", 35);
        fault(two + "pair 2 0;", 31);
        fault(two + "pair 0 2;", 33);
        fault(two + "pair 1 1;", 33);
        fault(two + "pair 1 01;", 33);
        fault(two + "pair 0;", 32);
        fault(two + "pair 0 1 0;", 35);
        fault(two + "pair 0 1", 34);
        fault(two + "pair 0 1;" + (char) 0, 35);
        String six = "heir 0 0;heir 0 0;heir 0 0;heir 0 0;heir 0 0;heir 0 0;";
        fault(c + six + "heir 6 0;", 62);
        fault(c + six + "heir", 62);
    }

    private static void fault(String text, int place) {
        CrownTwo x = Check.court("court 20;heir 3 9;heir 4 8;pair 1 0;");
        x.note(0, 1, 2, 3, 1);
        x.feed(3);
        Check.type(x, text);
        CHECK.asked(x, "read of '" + text + "'", c -> c.read(), -10 - place);
    }
}
