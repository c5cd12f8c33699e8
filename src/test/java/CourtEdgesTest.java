import java.util.function.Supplier;

/** Promises 1 to 5, their boundary cases: a new object, court, heir, type, clear. (6, read: TextEdgesTest.) */
public final class CourtEdgesTest {
    private static final Edges EDGES = new Edges("CourtEdgesTest", 1, 5);
    private static final Supplier<CrownTwo> NEW = CrownTwo::new;

    public static void main(String[] args) {
        newObject();
        newObjectsApart();
        courtAnswers();
        courtAsAtFirst();
        courtLeaves();
        courtMakesRoom();
        heirsAsTheyCome();
        heirKeptAsTold();
        heirAndUndo();
        typed();
        cleared();
        EDGES.end();
    }

    private static void newObject() {
        String[] counts = {"no HEIRS", "DAY 0", "WARMTH 50", "DONE none", "no NOTES", "nothing to undo", "an empty TEXT"};
        for (int what = 0; what <= 6; what++) {
            int w = what;
            EDGES.tells(1, "at first: " + counts[what], NEW, x -> x.count(w), what == 2 ? 50 : 0);
        }
        String[] reasons = {"BAD", "NO", "FULL"};
        for (int what = 0; what <= 2; what++) {
            int w = what;
            EDGES.tells(1, "at first: no call was refused as " + reasons[what], NEW, x -> x.status(w), 0);
        }
        EDGES.tells(1, "THE FRACTION is 0 by 1 at first: above", NEW, x -> x.part(0), 0);
        EDGES.tells(1, "THE FRACTION is 0 by 1 at first: below", NEW, x -> x.part(1), 1);
        EDGES.no(1, "at first: no PAIR", NEW, x -> x.lift(0));
        EDGES.no(1, "at first: none may be undone", NEW, x -> x.undo());
        EDGES.no(1, "at first: IMAGE 0 was not kept", NEW, x -> x.from(0));
        EDGES.no(1, "at first: IMAGE 1 was not kept", NEW, x -> x.from(1));
        EDGES.tells(1, "at first: THE TEXT ends at once", NEW, x -> x.read(), -10);
        EDGES.tells(1, "at first: BEST PAIR of no HEIRS", NEW, x -> x.pairs(0), CrownTwo.NONE);
        EDGES.tells(1, "at first: digest", NEW, x -> x.digest(), Check.fold(0, 0, 50, 0, 0, 0, 0, 0, -1, -1, 0, 1));
    }

    private static void newObjectsApart() {
        EDGES.edge(1, "a second object knows nothing of the first", c -> {
            CrownTwo older = Courts.busy();
            CrownTwo later = new CrownTwo();
            c.due("as a new one", Courts.whole(later).equals(Courts.whole(new CrownTwo())) ? 1 : 0, 1);
            c.due("the first goes on", Courts.whole(older).equals(Courts.whole(Courts.busy())) ? 1 : 0, 1);
        });
    }

    private static void courtAnswers() {
        for (int many = 0; many <= 6; many++) {
            int had = many;
            EDGES.edge(2, "how many HEIRS there were: " + many, c -> {
                CrownTwo x = Courts.heirs(had);
                c.due("court(1)", x.court(1), had);
                c.due("court(1) again", x.court(1), 0);
            });
        }
        for (int warmth : new int[] {0, 1, 50, 98, 99}) {
            EDGES.edge(2, "WARMTH " + warmth, c -> {
                CrownTwo x = Courts.busy();
                x.court(warmth);
                c.due("count(2)", x.count(2), warmth);
            });
        }
    }

    private static void courtAsAtFirst() {
        String[] counts = {"no HEIRS", "DAY 0", "", "DONE none", "no NOTES", "nothing to undo"};
        for (int what = 0; what <= 5; what++) {
            if (what == 2) continue;
            int w = what;
            EDGES.edge(2, "all else as at first: " + counts[what], c -> {
                CrownTwo x = Courts.busy();
                x.court(7);
                c.due("count(" + w + ")", x.count(w), 0);
            });
        }
        Supplier<CrownTwo> told = () -> {
            CrownTwo x = Courts.busy();
            x.court(7);
            return x;
        };
        EDGES.no(2, "all else as at first: no PAIR", told, x -> x.lift(0));
        EDGES.edge(2, "all else as at first: the digest of a court that had a PAIR", c -> {
            CrownTwo x = Courts.plainPair(20);
            x.ask(1);
            x.day(2);
            x.note(1, 1, 1, 1, 1);
            x.court(7);
            c.due("digest()", x.digest(), Check.fold(0, 0, 7, 0, 0, 0, 0, 0, -1, -1, 0, 1));
        });
        EDGES.no(2, "all else as at first: none may be undone", told, x -> x.undo());
        EDGES.bad(2, "all else as at first: HEIR 0 is gone", told, x -> x.of(0, 0));
        EDGES.edge(2, "all else as at first: an HEIR that comes then likes, hates and has NOTES as a new one", c -> {
            CrownTwo x = told.get();
            x.heir(0, 0, 0, 0);
            c.due("LIKES", x.of(0, 1), 0);
            c.due("HATES", x.of(0, 2), 0);
            c.due("IS", x.is(0), 63);
            c.due("of THE PAIR", x.of(0, 4), 0);
        });
    }

    private static void courtLeaves() {
        EDGES.edge(2, "but for IMAGES: both can be gone on from", c -> {
            CrownTwo x = Courts.busy();
            x.court(7);
            c.due("from(0)", x.from(0), 1);
            c.due("IMAGE 0: NOTES", x.count(4), 1);
            c.due("from(1)", x.from(1), 1);
            c.due("IMAGE 1: NOTES", x.count(4), 2);
            c.due("IMAGE 1: HEIRS", x.count(0), 4);
        });
        EDGES.edge(2, "but for THE TEXT: it can be read still", c -> {
            CrownTwo x = Courts.busy();
            int had = x.count(6);
            x.court(7);
            c.due("count(6)", x.count(6), had);
            c.due("read()", x.read(), 5);
        });
        EDGES.edge(2, "but for THE FRACTION", c -> {
            CrownTwo x = Courts.plainPair(10);
            x.slips(0, 1);
            x.court(7);
            c.due("above", x.part(0), 81);
            c.due("below", x.part(1), 100);
        });
        EDGES.edge(2, "but for STATUS", c -> {
            CrownTwo x = Courts.heirs(6);
            x.day(0);
            x.undo();
            x.heir(0, 0, 0, 0);
            x.court(7);
            for (int i = 0; i < 3; i++) c.due("status(" + i + ")", x.status(i), 1);
        });
        EDGES.edge(2, "an empty court told as it is changes nothing", c -> c.changesNothing(NEW, x -> x.court(50), 0, -1));
    }

    private static void courtMakesRoom() {
        EDGES.edge(2, "six HEIRS are gone: six may come again, from 0 on", c -> {
            CrownTwo x = Courts.heirs(6);
            x.court(5);
            for (int p = 0; p < 6; p++) c.due("heir", x.heir(1, p, 0, 0), p);
            c.due("the 7th", x.heir(1, 0, 0, 0), CrownTwo.FULL);
        });
        EDGES.edge(2, "six NOTES are gone: one may come again", c -> {
            CrownTwo x = Courts.heirs(1);
            for (int i = 0; i < 6; i++) x.note(0, 0, 0, 0, 0);
            x.court(5);
            x.heir(0, 0, 0, 0);
            c.due("note", x.note(0, 0, 0, 0, 0), 1);
        });
        EDGES.edge(2, "DONE ones are gone: they can be asked again", c -> {
            CrownTwo x = Courts.plainPair(20);
            x.ask(3);
            x.court(20);
            x.heir(0, 0, 0, 0);
            x.heir(0, 0, 0, 0);
            x.pair(0, 1);
            c.due("ask(3)", x.ask(3), 3);
        });
    }

    private static void heirsAsTheyCome() {
        for (int many = 0; many < 6; many++) {
            int had = many;
            EDGES.edge(3, "as they come: behind " + many + " the number is " + many, c -> {
                CrownTwo x = Courts.heirs(had);
                c.due("heir", x.heir(5, 0, 0, 0), had);
                c.due("count(0)", x.count(0), had + 1);
            });
        }
        EDGES.full(3, "FULL: 6", () -> Courts.heirs(6), x -> x.heir(0, 0, 0, 0));
        EDGES.full(3, "FULL: 6, and the greatest numbers", () -> Courts.heirs(6), x -> x.heir(5, 255, 255, 20));
    }

    private static void heirKeptAsTold() {
        int[][] told = {{0, 0, 0, 0}, {5, 255, 0, 20}, {3, 0, 255, 1}, {4, 255, 255, 19}, {2, 128, 1, 10}};
        for (int[] t : told) {
            EDGES.edge(3, "the least and the most are kept: " + java.util.Arrays.toString(t), c -> {
                CrownTwo x = new CrownTwo();
                x.heir(t[0], t[1], t[2], t[3]);
                for (int what = 0; what < 4; what++) c.due("of(0, " + what + ")", x.of(0, what), t[what]);
            });
        }
        EDGES.edge(3, "a bit in both: neither, so one LIFTS below 60 and not at 60", c -> {
            CrownTwo x = new CrownTwo();
            x.court(59);
            x.heir(0, Courts.ALL, Courts.ALL, 0);
            x.heir(0, Courts.ALL, Courts.ALL, 0);
            x.pair(0, 1);
            c.due("both(0) at 59", x.both(0), Courts.ALL);
            x.feed(1);
            c.due("both(0) at 60", x.both(0), 0);
        });
        EDGES.edge(3, "a bit in both beside one that is liked alone, one hated alone", c -> {
            CrownTwo x = new CrownTwo();
            x.court(60);
            x.heir(0, 0b011, 0b110, 0);
            x.heir(0, Courts.ALL, 0, 0);
            x.pair(0, 1);
            c.due("liked alone at 60", x.lift(0), 3);
            c.due("in both at 60", x.lift(1), 2);
            c.due("hated alone at 60", x.lift(2), 2);
            x.day(1);
            c.due("in both at 58", x.lift(1), 3);
            c.due("hated alone at 58", x.lift(2), 2);
        });
    }

    private static void heirAndUndo() {
        EDGES.edge(3, "behind an HEIR that comes none may be undone", c -> {
            CrownTwo x = Courts.plainPair(50);
            for (int i = 0; i < 8; i++) x.feed(1);
            x.heir(0, 0, 0, 0);
            c.due("count(5)", x.count(5), 0);
            c.due("undo()", x.undo(), CrownTwo.NO);
        });
        EDGES.edge(3, "an HEIR refused: what may be undone stays", c -> {
            CrownTwo x = Courts.heirs(6);
            x.feed(1);
            x.heir(0, 0, 0, 0);
            x.heir(9, 0, 0, 0);
            c.due("count(5)", x.count(5), 1);
            c.due("undo()", x.undo(), 0);
            c.due("WARMTH", x.count(2), 50);
        });
        EDGES.edge(3, "an HEIR that comes changes nothing else", c -> {
            CrownTwo x = Courts.plainPair(50);
            x.ask(2);
            x.day(3);
            x.note(1, 2, 3, 4, 0);
            x.heir(5, 0, 0, 0);
            int[] due = {3, 3, 42, 1, 1};
            for (int what = 0; what < 5; what++) c.due("count(" + what + ")", x.count(what), due[what]);
            c.due("the first", x.of(0, 4), 1);
            c.due("the second", x.of(1, 4), 2);
            c.due("the new one", x.of(2, 4), 0);
        });
    }

    private static void typed() {
        EDGES.edge(4, "a byte comes behind: 1 to 150", c -> {
            CrownTwo x = new CrownTwo();
            for (int i = 1; i <= 150; i++) c.due("byte " + i, x.type(i % 128), i);
        });
        EDGES.full(4, "FULL: the 151st", () -> text(150), x -> x.type(32));
        EDGES.full(4, "FULL: the 151st, of byte 0", () -> text(150), x -> x.type(0));
        EDGES.edge(4, "the 150th is taken", c -> {
            CrownTwo x = text(149);
            c.due("type", x.type(32), 150);
            c.due("status(2)", x.status(2), 0);
        });
        EDGES.edge(4, "FULL again and again: each counts", c -> {
            CrownTwo x = text(150);
            for (int i = 1; i <= 3; i++) {
                c.due("type", x.type(32), CrownTwo.FULL);
                c.due("status(2)", x.status(2), i);
            }
            c.due("count(6)", x.count(6), 150);
        });
        EDGES.edge(4, "behind FULL and clear it goes on from 1", c -> {
            CrownTwo x = text(150);
            x.type(32);
            x.clear();
            c.due("type", x.type(99), 1);
            c.due("read: an item that ends too early or is none", x.read(), -10);
        });
        EDGES.edge(4, "a byte changes THE TEXT alone", c -> {
            CrownTwo x = Courts.plainPair(30);
            long before = x.count(0) + x.count(1) + x.count(2) + x.count(5);
            x.type(59);
            c.due("counts", x.count(0) + x.count(1) + x.count(2) + x.count(5), before);
            c.due("a PAIR still", x.lift(0), 3);
        });
    }

    private static CrownTwo text(int bytes) {
        CrownTwo x = new CrownTwo();
        for (int i = 0; i < bytes; i++) x.type(32);
        return x;
    }

    private static void cleared() {
        for (int many : new int[] {0, 1, 149, 150}) {
            EDGES.edge(5, "how many it had: " + many, c -> {
                CrownTwo x = text(many);
                c.due("clear()", x.clear(), many);
                c.due("count(6)", x.count(6), 0);
                c.due("clear() again", x.clear(), 0);
            });
        }
        EDGES.edge(5, "an empty TEXT cleared changes nothing", c -> c.changesNothing(NEW, x -> x.clear(), 0, -1));
        EDGES.edge(5, "an empty TEXT ends at once", c -> {
            CrownTwo x = new CrownTwo();
            Check.type(x, "court 1;");
            x.clear();
            c.due("read()", x.read(), -10);
        });
        EDGES.edge(5, "what stood there does not come back", c -> {
            CrownTwo x = new CrownTwo();
            Check.type(x, "court 1;heir 0 0;");
            Check.type(x, "court 2;");
            c.due("read()", x.read(), 1);
            c.due("HEIRS", x.count(0), 0);
        });
        EDGES.edge(5, "a court that was read stays", c -> {
            CrownTwo x = new CrownTwo();
            Check.read(x, "court 1;heir 0 0;");
            x.clear();
            c.due("HEIRS", x.count(0), 1);
            c.due("WARMTH", x.count(2), 1);
        });
    }
}
