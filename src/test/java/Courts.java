import java.util.ArrayList;
import java.util.List;

/** Courts that the boundary cases begin with, and all that can be seen of one. */
final class Courts {
    static final int ALL = 255;

    private Courts() { }

    /** Four heirs, a pair, days gone by, an act DONE, notes, a text, a fraction, both images, refusals: each call may be taken. */
    static CrownTwo busy() {
        CrownTwo x = new CrownTwo();
        Check.type(x, "court 33;heir 2 7;heir 1 3;like 1 4;pair 1 0;");
        x.court(40);
        x.heir(0, 5, 6, 11);
        x.heir(4, 8, 16, 20);
        x.heir(5, 32, 64, 3);
        x.heir(1, 128, 1, 15);
        x.pair(0, 1);
        x.ask(5);
        x.note(0, 1, 2, 3, 1);
        x.image(0);
        x.day(2);
        x.note(3, 7, 98, 97, 0);
        x.slips(0, 3);
        x.pair(2, 3);
        x.feed(9);
        x.image(1);
        x.pair(1, 2);
        x.day(0);
        x.from(2);
        x.ask(5);
        return x;
    }

    /** That many plain heirs of temper 0 who like and hate nothing, no pair. */
    static CrownTwo heirs(int many) {
        CrownTwo x = new CrownTwo();
        for (int i = 0; i < many; i++) x.heir(0, 0, 0, 0);
        return x;
    }

    /** No heirs, that WARMTH on that DAY. */
    static CrownTwo at(int warmth, int day) {
        CrownTwo x = new CrownTwo();
        x.court(0);
        for (int gone = 0; gone < day; gone += 60) x.day(Math.min(60, day - gone));
        for (int fed = 0; fed < warmth; fed += 20) x.feed(Math.min(20, warmth - fed));
        return x;
    }

    /** Two plain ones who like and hate nothing, a pair in that WARMTH; each DAY it becomes 2 less. */
    static CrownTwo plainPair(int warmth) {
        return pairOf(warmth, 0, 0, 0, 0);
    }

    /** A pair, of kinds and tempers as told, who like and hate nothing. */
    static CrownTwo pairOf(int warmth, int kind, int temper, int otherKind, int otherTemper) {
        CrownTwo x = new CrownTwo();
        x.court(warmth);
        x.heir(kind, 0, 0, temper);
        x.heir(otherKind, 0, 0, otherTemper);
        x.pair(0, 1);
        return x;
    }

    /** All that can be seen of an object but STATUS: court, what may be undone, text, images. It is used up by that. */
    static List<Long> whole(CrownTwo x) {
        List<Long> seen = new ArrayList<>();
        addCourt(x, seen);
        seen.add((long) x.read());
        addCourt(x, seen);
        for (int i = 0; i < 2; i++) {
            seen.add((long) x.from(i));
            addCourt(x, seen);
        }
        return seen;
    }

    private static void addCourt(CrownTwo x, List<Long> seen) {
        seen.add(x.digest());
        for (int i = 0; i < 20; i++) {
            seen.add((long) x.undo());
            seen.add(x.digest());
        }
    }
}
