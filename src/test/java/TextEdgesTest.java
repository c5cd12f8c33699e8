/** Promise 6, its boundary cases: a court told by a text, each FAULT that the document names, and what is none. */
public final class TextEdgesTest {
    private static final Edges EDGES = new Edges("TextEdgesTest", 6, 6);
    private static final char PLACE = '^';
    private static final String TWO = "court 1;heir 0 0;heir 0 0;";
    private static final String SIX = "court 1;heir 0 0;heir 0 0;heir 0 0;heir 0 0;heir 0 0;heir 0 0;";

    public static void main(String[] args) {
        wordsThatAreNone();
        courtOnceFirstOfAll();
        seventhHeir();
        thirdFigures();
        numbersNotAsTold();
        heirsNotThereYet();
        pairsAlike();
        bytesThatBeginNone();
        endsTooEarly();
        tokensThatCanNotStand();
        firstFaultAlone();
        numbersAsTold();
        likesAndHates();
        pairs();
        blanks();
        lengths();
        takesThePlace();
        leaves();
        faultsLeaveNothingBehind();
        EDGES.end();
    }

    private static void wordsThatAreNone() {
        fault("a word that is none", "^king 1;");
        fault("a word that is none", "court 1;^king 1;");
        fault("a word that is none, begun as one", "court 1;^hei 0 0;");
        fault("a word that is none, begun as one", "court 1;^heirs 0 0;");
        fault("a word that is none, begun as one", "^cour 1;");
        fault("a word that is none, begun as one", "^courts 1;");
        fault("a word that is none, begun as one: the last letter", "^courtz 1;");
        fault("a word that is none, begun as one: the first letter", "^courta 1;");
        fault("a word that is none, ended as one", "^zcourt 1;");
        fault("a word that is none, of the same length", "^courx 1;");
        fault("a word that is none, of the same length", "^xourt 1;");
        fault("a word that is none, of the same length", TWO + "^lika 0;");
        fault("a word that is none, of the same length", TWO + "^gate 0;");
        fault("a word that is none, of the same length", TWO + "^paip 0 1;");
        fault("a word that is none, of one letter", "court 1;^a;");
        fault("a word that is none, of one letter", "court 1;^z;");
        fault("two words without a blank are one that is none", "court 1;^heirheir 0 0;");
        fault("a word that is none, where THE TEXT ends", "court 1;^h");
    }

    private static void courtOnceFirstOfAll() {
        fault("court again", "court 1;^court 1;");
        fault("court again, behind others", TWO + "pair 0 1;^court 1;");
        fault("court again, inside its item", "court ^court 1;");
        fault("anything ahead of court: heir", "^heir 0 0;court 1;");
        fault("anything ahead of court: like", "^like 0;court 1;");
        fault("anything ahead of court: hate", "^hate 0;court 1;");
        fault("anything ahead of court: pair", "^pair 0 1;court 1;");
        fault("anything ahead of court: a number", "^1 court 1;");
        fault("anything ahead of court: an ending", "^;court 1;");
        fault("anything ahead of court, behind blanks", "  ^heir 0 0;");
    }

    private static void seventhHeir() {
        fault("a 7th heir at its word", SIX + "^heir 0 0;");
        fault("a 7th heir at its word, wrong numbers behind it", SIX + "^heir 9 99;");
        fault("a 7th heir at its word, nothing behind it", SIX + "^heir");
        fault("a 7th heir at its word, others between", SIX + "like 5 1;pair 5 4;  ^heir 0 0;");
        told("six heirs are not too many", SIX, 7, 0, 6);
    }

    private static void thirdFigures() {
        fault("a third figure's number: WARMTH", "court ^100;");
        fault("a third figure's number: WARMTH, small", "court ^000;");
        fault("a third figure's number: WARMTH, four", "court ^0001;");
        fault("a third figure's number: KIND", "court 1;heir ^000 0;");
        fault("a third figure's number: TEMPER", "court 1;heir 0 ^020;");
        fault("a third figure's number: the HEIR who likes", TWO + "like ^000;");
        fault("a third figure's number: an ACT liked", TWO + "like 0 ^001;");
        fault("a third figure's number: a later ACT hated", TWO + "hate 0 1 2 ^003;");
        fault("a third figure's number: the first of a pair", TWO + "pair ^000 1;");
        fault("a third figure's number: the second of a pair", TWO + "pair 0 ^001;");
        fault("a third figure's number, where none is due", "court 1 ^001;");
        fault("a third figure's number, where a word is due", "court 1;^001;");
        fault("a third figure's number, where THE TEXT ends", "court ^001");
        fault("a third figure's number, very many figures", "court ^0000000000000000000000000000000000000001;");
        fault("a third figure's number, far above any int", "court ^99999999999999999999;");
    }

    private static void numbersNotAsTold() {
        fault("a number not as told: KIND 6", "court 1;heir ^6 0;");
        fault("a number not as told: KIND 99", "court 1;heir ^99 0;");
        fault("a number not as told: TEMPER 21", "court 1;heir 0 ^21;");
        fault("a number not as told: TEMPER 99", "court 1;heir 5 ^99;");
        fault("a number not as told: ACT 8 liked", TWO + "like 0 ^8;");
        fault("a number not as told: ACT 08 liked", TWO + "like 0 ^08;");
        fault("a number not as told: ACT 8 hated", TWO + "hate 0 ^8;");
        fault("a number not as told: ACT 8 behind all others", TWO + "hate 1 0 1 2 3 4 5 6 7 ^8;");
        fault("a number not as told: ACT 10", TWO + "like 1 ^10;");
    }

    private static void heirsNotThereYet() {
        fault("an HEIR that is not there yet: no heirs, like", "court 1;like ^0 1;");
        fault("an HEIR that is not there yet: no heirs, hate", "court 1;hate ^0 1;");
        fault("an HEIR that is not there yet: no heirs, pair", "court 1;pair ^0 1;");
        fault("an HEIR that is not there yet: the next one", TWO + "like ^2 1;");
        fault("an HEIR that is not there yet: the next one hates", TWO + "hate ^02;");
        fault("an HEIR that is not there yet: the first of a pair", TWO + "pair ^2 0;");
        fault("an HEIR that is not there yet: the second of a pair", TWO + "pair 0 ^2;");
        fault("an HEIR that is not there yet: one heir alone", "court 1;heir 0 0;pair 0 ^1;");
        fault("an HEIR that is not there yet, though it comes later", TWO + "like ^2;heir 0 0;");
        fault("an HEIR that is not there yet: 6 can never be", SIX + "like ^6;");
        fault("an HEIR that is not there yet: 6 can never be of a pair", SIX + "pair 5 ^6;");
        told("the last heir is there", SIX + "like 5 7;", 8, 0, 6);
    }

    private static void pairsAlike() {
        fault("two of a pair alike", TWO + "pair 0 ^0;");
        fault("two of a pair alike", TWO + "pair 1 ^1;");
        fault("two of a pair alike, told by other figures", TWO + "pair 1 ^01;");
        fault("two of a pair alike, told by other figures", TWO + "pair 00 ^0;");
        fault("two of a pair alike: the last heirs", SIX + "pair 5 ^5;");
    }

    private static void bytesThatBeginNone() {
        int[] bytes = {0, 1, 9, 10, 13, 31, 33, 44, 45, 47, 58, 60, 64, 65, 90, 91, 96, 123, 126, 127};
        for (int b : bytes) {
            char sign = (char) b;
            fault("a byte that begins none, " + b + ", first of all", PLACE + "" + sign + "court 1;");
            fault("a byte that begins none, " + b + ", where a number is due", "court " + PLACE + sign + "1;");
            fault("a byte that begins none, " + b + ", behind a number", "court 1" + PLACE + sign + ";");
            fault("a byte that begins none, " + b + ", behind a word", "court" + PLACE + sign + " 1;");
            fault("a byte that begins none, " + b + ", where a word is due", "court 1;" + PLACE + sign);
            fault("a byte that begins none, " + b + ", last of all", TWO + "pair 0 1; " + PLACE + sign);
        }
        fault("a byte that begins none: a word cut by it is none", "^cOurt 1;");
    }

    private static void endsTooEarly() {
        fault("THE TEXT's length: an empty one", "^");
        fault("THE TEXT's length: a blank alone", " ^");
        fault("THE TEXT's length: blanks alone", "     ^");
        fault("THE TEXT's length: behind court", "court^");
        fault("THE TEXT's length: behind court and a blank", "court ^");
        fault("THE TEXT's length: behind WARMTH", "court 1^");
        fault("THE TEXT's length: behind WARMTH and blanks", "court 1  ^");
        fault("THE TEXT's length: behind heir", "court 1;heir^");
        fault("THE TEXT's length: behind KIND", "court 1;heir 0^");
        fault("THE TEXT's length: behind TEMPER", "court 1;heir 0 0^");
        fault("THE TEXT's length: behind like", TWO + "like^");
        fault("THE TEXT's length: behind who likes", TWO + "like 1 ^");
        fault("THE TEXT's length: behind what is liked", TWO + "like 1 0 7^");
        fault("THE TEXT's length: behind hate", TWO + "hate ^");
        fault("THE TEXT's length: behind who hates", TWO + "hate 1^");
        fault("THE TEXT's length: behind what is hated", TWO + "hate 1 7^");
        fault("THE TEXT's length: behind pair", TWO + "pair^");
        fault("THE TEXT's length: behind the first of a pair", TWO + "pair 1^");
        fault("THE TEXT's length: behind the second of a pair", TWO + "pair 1 0^");
    }

    private static void tokensThatCanNotStand() {
        fault("an ending, where WARMTH is due", "court^;");
        fault("an ending, where an item is due", "court 1;^;");
        fault("an ending, where KIND is due", "court 1;heir ^;");
        fault("an ending, where TEMPER is due", "court 1;heir 0^;");
        fault("an ending, where who likes is due", TWO + "like^;");
        fault("an ending, where the first of a pair is due", TWO + "pair^;");
        fault("an ending, where the second of a pair is due", TWO + "pair 0^;");
        fault("a number, where an item is due", "court 1;^1;");
        fault("a number too many: court", "court 1 ^1;");
        fault("a number too many: heir", "court 1;heir 0 0 ^0;");
        fault("a number too many: pair", TWO + "pair 0 1 ^1;");
        fault("a word, where WARMTH is due", "court ^heir;");
        fault("a word, where KIND is due", "court 1;heir ^heir 0 0;");
        fault("a word, where an ending is due", "court 1 ^heir 0 0;");
        fault("a word, where an ACT or an ending is due", TWO + "like 0 1 ^hate 0 1;");
        fault("a word behind a number without a blank", "court 1^heir 0 0;");
    }

    private static void firstFaultAlone() {
        fault("the first TOKEN of two that can not stand", "court 1;heir ^6 21;");
        fault("the first TOKEN of two that can not stand", "court 1;heir 0 ^21;king;");
        fault("ahead of an end that is too early", "court 1;heir ^6");
        fault("a pair's first one ahead of its second", TWO + "pair ^2 2;");
    }

    private static void numbersAsTold() {
        told("WARMTH 0", "court 0;", 1, 2, 0);
        told("WARMTH 99", "court 99;", 1, 2, 99);
        told("WARMTH by two figures", "court 00;", 1, 2, 0);
        told("WARMTH by two figures", "court 09;", 1, 2, 9);
        heirTold("KIND 0, TEMPER 0", "heir 0 0;", 0, 0);
        heirTold("KIND 5, TEMPER 20", "heir 5 20;", 5, 20);
        heirTold("by two figures", "heir 05 09;", 5, 9);
        EDGES.edge(6, "heir LIKES, HATES nothing", c -> {
            CrownTwo x = Courts.busy();
            Check.read(x, "court 1;heir 0 0;heir 1 0;heir 2 0;heir 3 0;");
            for (int p = 0; p < 4; p++) c.due("LIKES and HATES", x.of(p, 1) + x.of(p, 2), 0);
        });
    }

    private static void likesAndHates() {
        hearts("any: none", "like 0;", 0, 0);
        hearts("any: all of 8", "like 0 0 1 2 3 4 5 6 7;", 255, 0);
        hearts("any: all of 8 hated, in another order", "hate 0 7 6 5 4 3 2 1 0;", 0, 255);
        hearts("the least ACT", "like 0 0;", 1, 0);
        hearts("the greatest ACT", "like 0 7;", 128, 0);
        hearts("by two figures", "hate 00 07;", 0, 128);
        hearts("one told twice in an item", "like 0 3 3 03;", 8, 0);
        hearts("those alone: told again", "like 0 1 2;like 0 3;", 8, 0);
        hearts("those alone: told again, none", "like 0 1 2;like 0;", 0, 0);
        hearts("likewise: told again", "hate 0 1 2;hate 0 3;", 0, 8);
        hearts("likewise: told again, none", "hate 0 1 2;hate 0;", 0, 0);
        hearts("a bit in both", "like 0 1 2;hate 0 2 3;", 6, 12);
        hearts("likes do not take from hates", "hate 0 1;like 0 1;like 0;", 0, 2);
        EDGES.edge(6, "more ACTS than there are, told again and again", c -> {
            CrownTwo x = new CrownTwo();
            StringBuilder text = new StringBuilder(TWO + "like 1");
            while (text.length() < 148) text.append(" 5");
            c.due("read()", Check.read(x, text + ";"), 4);
            c.due("LIKES", x.of(1, 1), 32);
        });
    }

    private static void hearts(String words, String items, int likes, int hates) {
        EDGES.edge(6, words + ": '" + items + "'", c -> {
            CrownTwo x = new CrownTwo();
            int many = (int) items.chars().filter(b -> b == ';').count();
            c.due("read()", Check.read(x, TWO + items), 3 + many);
            c.due("LIKES", x.of(0, 1), likes);
            c.due("HATES", x.of(0, 2), hates);
            c.due("the other's", x.of(1, 1) + x.of(1, 2), 0);
        });
    }

    private static void pairs() {
        pairTold("the first and the second", TWO + "pair 0 1;", 0, 1);
        pairTold("the other way round", TWO + "pair 1 0;", 1, 0);
        pairTold("by two figures", TWO + "pair 01 00;", 1, 0);
        pairTold("told again", TWO + "pair 0 1;pair 1 0;", 1, 0);
        pairTold("the last of six", SIX + "pair 5 4;", 5, 4);
        pairTold("heirs that come behind it", TWO + "pair 1 0;heir 0 0;heir 0 0;", 1, 0);
        EDGES.edge(6, "pair not told: none", c -> {
            CrownTwo x = Courts.busy();
            Check.read(x, TWO);
            c.due("lift(0)", x.lift(0), CrownTwo.NO);
            c.due("of(0, 4)", x.of(0, 4), 0);
        });
        EDGES.edge(6, "pair not told behind a TEXT that told one: none", c -> {
            CrownTwo x = new CrownTwo();
            Check.read(x, TWO + "pair 1 0;");
            Check.read(x, "court 4;");
            c.due("digest()", x.digest(), Check.fold(0, 0, 4, 0, 0, 0, 8, 0, -1, -1, 0, 1));
        });
    }

    private static void pairTold(String words, String text, int p, int q) {
        EDGES.edge(6, words + ": '" + text + "'", c -> {
            CrownTwo x = Courts.busy();
            Check.read(x, text);
            for (int heir = 0; heir < x.count(0); heir++) {
                c.due("of(" + heir + ", 4)", x.of(heir, 4), heir == p ? 1 : heir == q ? 2 : 0);
            }
            c.due("nothing to undo", x.undo(), CrownTwo.NO);
        });
    }

    private static void blanks() {
        told("blanks ahead of all", "   court 7;", 1, 2, 7);
        told("blanks behind all", "court 7;   ", 1, 2, 7);
        told("many blanks between", "court     7    ;    heir    0     0   ;", 2, 2, 7);
        told("no blank around an ending", "court 7;heir 0 0;", 2, 0, 1);
        told("no blank between a word and a number", "court7;heir0 0;", 2, 0, 1);
        fault("a blank parts a word", "^co urt 1;");
        fault("a blank parts a number", "court 1 ^0;");
    }

    private static void lengths() {
        EDGES.edge(6, "150 bytes at most: 150 are read", c -> {
            CrownTwo x = new CrownTwo();
            Check.type(x, padded(SIX + "like 0;", 149));
            c.due("type", x.type(32), 150);
            c.due("read()", x.read(), 8);
        });
        EDGES.edge(6, "150 bytes at most: an ending as the 150th", c -> {
            CrownTwo x = new CrownTwo();
            Check.type(x, padded(SIX + "like 0", 149));
            c.due("read() of 149", x.read(), -159);
            c.due("type", x.type(59), 150);
            c.due("read() of 150", x.read(), 8);
        });
        EDGES.edge(6, "150 bytes that end too early: the greatest FAULT", c -> {
            CrownTwo x = new CrownTwo();
            Check.type(x, padded("court 1", 150));
            c.due("read()", x.read(), -160);
        });
        EDGES.edge(6, "150 blanks end too early", c -> {
            CrownTwo x = new CrownTwo();
            Check.type(x, padded("", 150));
            c.due("read()", x.read(), -160);
        });
        EDGES.edge(6, "the 151st byte was refused: it is not read", c -> {
            CrownTwo x = new CrownTwo();
            Check.type(x, padded("court 1;", 150) + "king");
            c.due("read()", x.read(), 1);
        });
        EDGES.edge(6, "very many ITEMS", c -> {
            CrownTwo x = new CrownTwo();
            StringBuilder text = new StringBuilder("court 1;heir 0 0;");
            for (int i = 0; i < 19; i++) text.append("like 0;");
            c.due("length", text.length(), 150);
            c.due("read()", Check.read(x, text.toString()), 21);
        });
        EDGES.edge(6, "a word of 150 letters is none", c -> {
            CrownTwo x = new CrownTwo();
            c.due("read()", Check.read(x, "c".repeat(150)), -10);
        });
        EDGES.edge(6, "a number of 144 figures", c -> {
            CrownTwo x = new CrownTwo();
            c.due("read()", Check.read(x, "court " + "9".repeat(144)), -16);
        });
    }

    private static String padded(String text, int length) {
        return text + " ".repeat(length - text.length());
    }

    private static void takesThePlace() {
        int[] due = {1, 0, 7, 0, 0, 0};
        String[] names = {"HEIRS", "DAY 0", "WARMTH", "nothing DONE", "NOTES none", "nothing to undo"};
        for (int what = 0; what < due.length; what++) {
            int w = what;
            EDGES.edge(6, "a COURT that is read takes the place of all: " + names[what], c -> {
                CrownTwo x = Courts.busy();
                c.due("read()", Check.read(x, "court 7;heir 2 11;"), 2);
                c.due("count(" + w + ")", x.count(w), due[w]);
            });
        }
        EDGES.edge(6, "read again: the same, and what came between is gone", c -> {
            CrownTwo x = new CrownTwo();
            Check.read(x, TWO + "pair 0 1;");
            long first = x.digest();
            x.ask(0);
            x.day(4);
            x.heir(0, 0, 0, 0);
            x.note(2, 0, 0, 0, 0);
            c.due("read()", x.read(), 4);
            c.due("digest()", x.digest(), first);
            c.due("undo()", x.undo(), CrownTwo.NO);
        });
    }

    private static void leaves() {
        EDGES.edge(6, "all but IMAGES", c -> {
            CrownTwo x = Courts.busy();
            Check.read(x, "court 7;");
            c.due("from(0)", x.from(0), 1);
            c.due("IMAGE 0: NOTES", x.count(4), 1);
            c.due("from(1)", x.from(1), 1);
            c.due("IMAGE 1: NOTES", x.count(4), 2);
        });
        EDGES.edge(6, "all but THE TEXT", c -> {
            CrownTwo x = new CrownTwo();
            Check.read(x, "court 7;");
            c.due("count(6)", x.count(6), 8);
            c.due("type", x.type(59), 9);
            c.due("read()", x.read(), -18);
        });
        EDGES.edge(6, "all but THE FRACTION", c -> {
            CrownTwo x = Courts.plainPair(10);
            x.slips(0, 1);
            Check.read(x, "court 7;");
            c.due("above", x.part(0), 81);
            c.due("below", x.part(1), 100);
        });
        EDGES.edge(6, "all but STATUS", c -> {
            CrownTwo x = Courts.heirs(6);
            x.day(0);
            x.undo();
            x.heir(0, 0, 0, 0);
            Check.read(x, "court 7;");
            for (int i = 0; i < 3; i++) c.due("status(" + i + ")", x.status(i), 1);
        });
    }

    private static void faultsLeaveNothingBehind() {
        EDGES.edge(6, "all stays, and what was read ahead of the FAULT does not come with a later court", c -> {
            CrownTwo x = new CrownTwo();
            Check.read(x, TWO + "like 0 1;hate 1 2;pair 0 1;king;");
            c.due("HEIRS", x.count(0), 0);
            c.due("WARMTH", x.count(2), 50);
            c.due("read()", Check.read(x, "court 3;heir 0 0;heir 0 0;"), 3);
            c.due("LIKES", x.of(0, 1), 0);
            c.due("HATES", x.of(1, 2), 0);
            c.due("no PAIR", x.lift(0), CrownTwo.NO);
        });
    }

    /** The text has the mark where the FAULT is due. */
    private static void fault(String words, String marked) {
        int place = marked.indexOf(PLACE);
        String text = marked.substring(0, place) + marked.substring(place + 1);
        EDGES.edge(6, words + ": '" + marked + "'", c -> c.changesNothing(() -> {
            CrownTwo x = Courts.busy();
            Check.type(x, text);
            return x;
        }, x -> x.read(), -10 - place, -1));
    }

    private static void told(String words, String text, int items, int what, int count) {
        EDGES.edge(6, words + ": '" + text + "'", c -> {
            CrownTwo x = Courts.busy();
            c.due("read()", Check.read(x, text), items);
            c.due("count(" + what + ")", x.count(what), count);
        });
    }

    private static void heirTold(String words, String item, int kind, int temper) {
        EDGES.edge(6, words + ": '" + item + "'", c -> {
            CrownTwo x = new CrownTwo();
            c.due("read()", Check.read(x, "court 1;" + item), 2);
            c.due("KIND", x.of(0, 0), kind);
            c.due("TEMPER", x.of(0, 3), temper);
        });
    }
}
