/** A crown carried by two who have quarrelled: what they lift for, and what becomes of the quarrel. */
public final class CrownTwo {
    public static final int NONE = -1, BAD = -2, NO = -3, FULL = -4;

    private static final int ACTS = 8, ALL_ACTS = 255, KINDS = 6;
    private static final int MOST_HEIRS = 6, MOST_NOTES = 6, MOST_UNDONE = 8, MOST_TEXT = 150, MOST_IMAGES = 2;
    private static final int MOST_WARMTH = 99, FIRST_WARMTH = 50, FRIENDS_BELOW = 10, COOLING = 2;
    private static final int MOST_TEMPER = 20, MOST_FED = 20, MOST_NOTED_DAY = 99;
    private static final int MOST_DAYS = 60, LONGEST_LOOK = 90, MOST_PLANNED = 4;
    private static final int ODDS = 10, MOST_SEED = 999999;
    private static final int NO_ONE = 0, BOTH = 3;
    private static final int BAD_MAKES = -100, BAD_MOST = -10, NOT_SO_MANY = -5, FAULT = -10;

    private final Court court;
    private final Court draft;
    private final Court[] images;
    private final boolean[] kept = new boolean[MOST_IMAGES];
    private final CourtText text = new CourtText();
    private final Moment trial = new Moment();
    private final Moment[] steps = new Moment[MOST_PLANNED + 1];
    private final int[] way = new int[MOST_PLANNED];
    private final int[] bestWay = new int[MOST_PLANNED];
    private int mostDone = NONE;
    private int above = 0;
    private int below = 1;
    private int bads = 0;
    private int noes = 0;
    private int fulls = 0;

    public CrownTwo() {
        Plain[] kinds = {new Plain(), new Sulky(), new Joker(), new Proud(), new Tired(), new Forgiver()};
        court = new Court(kinds);
        draft = new Court(kinds);
        images = new Court[] {new Court(kinds), new Court(kinds)};
        for (int i = 0; i < steps.length; i++) steps[i] = new Moment();
    }

    // ---- a court

    public int court(int warmth) {
        if (outside(warmth, 0, MOST_WARMTH)) return bad();
        int had = court.heirCount;
        court.begin(warmth);
        return had;
    }

    public int heir(int kind, int like, int hate, int temper) {
        if (outside(kind, 0, KINDS - 1) || outside(temper, 0, MOST_TEMPER)) return bad();
        if (outside(like, 0, ALL_ACTS) || outside(hate, 0, ALL_ACTS)) return bad();
        if (court.heirCount >= MOST_HEIRS) return full();
        return court.admit(kind, like, hate, temper);
    }

    public int type(int c) {
        if (outside(c, 0, 127)) return bad();
        if (text.length >= MOST_TEXT) return full();
        text.append(c);
        return text.length;
    }

    public int clear() {
        int had = text.length;
        text.length = 0;
        return had;
    }

    public int read() {
        // A draft is filled first, so that a fault leaves the court as it is.
        int items = text.parseInto(draft);
        if (items == NONE) return FAULT - text.place;
        court.become(draft);
        return items;
    }

    // ---- days

    public int pair(int p, int q) {
        if (!court.hasTwo(p, q)) return bad();
        court.remember();
        court.now.first = p;
        court.now.second = q;
        return 1;
    }

    public int ask(int act) {
        if (outside(act, 0, ACTS - 1)) return bad();
        if (!court.paired(court.now) || court.now.isDone(act)) return no();
        court.remember();
        return court.askIn(court.now, act);
    }

    public int day(int n) {
        if (outside(n, 1, MOST_DAYS)) return bad();
        court.remember();
        court.passDays(court.now, n);
        return court.now.warmth;
    }

    public int feed(int n) {
        if (outside(n, 1, MOST_FED)) return bad();
        court.remember();
        court.now.warm(n);
        return court.now.warmth;
    }

    public int undo() {
        if (court.pastCount <= 0) return no();
        court.goBack();
        return court.now.date;
    }

    public int of(int p, int what) {
        if (!court.has(p) || outside(what, 0, 4)) return bad();
        Heir heir = court.heirs[p];
        switch (what) {
            case 0: return heir.kind;
            case 1: return heir.likes;
            case 2: return heir.hates;
            case 3: return heir.temper;
            default: return court.now.sideOf(p);
        }
    }

    public int makes(int p) {
        if (court.has(p)) return court.addedBy(p);
        bad();
        return BAD_MAKES;
    }

    // ---- what they lift for

    public int lift(int act) {
        if (outside(act, 0, ACTS - 1)) return bad();
        if (!court.paired(court.now)) return no();
        return court.liftersIn(court.now, act);
    }

    public int both(int m) {
        if (outside(m, 0, MOST_DAYS)) return bad();
        if (!court.paired(court.now)) return no();
        trial.become(court.now);
        court.passDays(trial, m);
        return court.actsOfBoth(trial);
    }

    public int friends() {
        return daysToFriends(court.changeInADay(court.now));
    }

    public int then(int m) {
        if (outside(m, 0, LONGEST_LOOK)) return bad();
        trial.become(court.now);
        court.passDays(trial, m);
        return trial.warmth;
    }

    public int most(int n, int i) {
        if (outside(n, 1, MOST_PLANNED) || i < NONE) {
            bad();
            return BAD_MOST;
        }
        if (!court.paired(court.now)) return no();
        if (i >= n) return NOT_SO_MANY;
        mostDone = NONE;
        steps[0].become(court.now);
        tryFrom(0, n, 0, court.changeInADay(court.now));
        return i == NONE ? mostDone : bestWay[i];
    }

    public int keep(int n) {
        if (outside(n, 1, MOST_DAYS)) return bad();
        int change = court.changeInADay(court.now);
        for (int fed = 0; fed <= MOST_WARMTH; fed++) {
            if (staysQuarrelled(fed, change, n)) return fed;
        }
        return NONE;
    }

    // ---- pairs

    public int lasts(int p, int q) {
        if (!court.hasTwo(p, q)) return bad();
        return lastingOf(p, q);
    }

    public int pairs(int what) {
        if (outside(what, 0, 1)) return bad();
        return what == 0 ? bestPair() : stuckPairs();
    }

    // ---- what one lifted for

    public int note(int p, int act, int w, int d, int lifted) {
        if (!court.has(p) || outside(act, 0, ACTS - 1) || outside(w, 0, MOST_WARMTH)) return bad();
        if (outside(d, 0, MOST_NOTED_DAY) || outside(lifted, 0, 1)) return bad();
        if (court.noteCount >= MOST_NOTES) return full();
        court.notes[court.noteCount].put(p, act, w, d, lifted);
        court.noteCount++;
        return court.noteCount;
    }

    public int forget() {
        int had = court.noteCount;
        court.noteCount = 0;
        return had;
    }

    public int is(int p) {
        if (!court.has(p)) return bad();
        return kindsThatFit(p);
    }

    public int heart(int p, int act) {
        if (!court.has(p) || outside(act, 0, ACTS - 1)) return bad();
        Heir heir = court.heirs[p];
        int likes = heir.likes, hates = heir.hates, bit = 1 << act;
        int hearts = 0;
        heir.feel(likes | bit, hates & ~bit);
        if (court.fits(p, heir.kind)) hearts |= 1;
        heir.feel(likes & ~bit, hates | bit);
        if (court.fits(p, heir.kind)) hearts |= 2;
        heir.feel(likes & ~bit, hates & ~bit);
        if (court.fits(p, heir.kind)) hearts |= 4;
        heir.feel(likes, hates);
        return hearts;
    }

    public int next(int p) {
        if (!court.has(p)) return bad();
        int kinds = kindsThatFit(p);
        if (kinds == 0) return NONE;
        int all = Integer.bitCount(kinds);
        int best = NONE, least = KINDS + 1;
        for (int act = 0; act < ACTS; act++) {
            int lifting = Integer.bitCount(kinds & court.kindsThatLift(p, act));
            int greater = Math.max(lifting, all - lifting);
            if (greater < least) {
                least = greater;
                best = act;
            }
        }
        return best;
    }

    public int spite(int act) {
        if (outside(act, 0, ACTS - 1)) return bad();
        if (!court.paired(court.now)) return no();
        Heir one = court.heirs[court.now.first], other = court.heirs[court.now.second];
        int resting = 0;
        for (int who = 0; who <= BOTH; who++) {
            boolean a = (who & 1) != 0, b = (who & 2) != 0;
            boolean oneRests = gain(one, act, a, b) >= gain(one, act, !a, b);
            boolean otherRests = gain(other, act, b, a) >= gain(other, act, !b, a);
            if (oneRests && otherRests) resting |= 1 << who;
        }
        return resting;
    }

    public int slips(int act, int c) {
        if (outside(act, 0, ACTS - 1) || outside(c, 0, ODDS)) return bad();
        if (!court.paired(court.now)) return no();
        int who = court.liftersIn(court.now, act);
        int one = (who & 1) != 0 ? ODDS - c : c;
        int other = (who & 2) != 0 ? ODDS - c : c;
        setFraction(one * other, ODDS * ODDS);
        return 1;
    }

    public int reigns(int seed, int n) {
        if (outside(seed, 0, MOST_SEED) || outside(n, 0, MOST_DAYS)) return bad();
        if (!court.paired(court.now)) return no();
        trial.become(court.now);
        long x = seed;
        for (int day = 0; day < n; day++) {
            x = (x * 1103515245L + 12345L) % 2147483648L;
            int act = (int) (x / 65536L % ACTS);
            if (!trial.isDone(act)) court.askIn(trial, act);
            court.passDays(trial, 1);
        }
        return Integer.bitCount(trial.done);
    }

    // ---- what there is

    public long part(int what) {
        if (outside(what, 0, 1)) return bad();
        return what == 0 ? above : below;
    }

    public int image(int i) {
        if (outside(i, 0, MOST_IMAGES - 1)) return bad();
        images[i].become(court);
        kept[i] = true;
        return 1;
    }

    public int from(int i) {
        if (outside(i, 0, MOST_IMAGES - 1)) return bad();
        if (!kept[i]) return no();
        court.become(images[i]);
        return 1;
    }

    public int status(int what) {
        switch (what) {
            case 0: return bads;
            case 1: return noes;
            case 2: return fulls;
            default:
                bad();
                return NONE;
        }
    }

    public int count(int what) {
        if (outside(what, 0, 6)) return bad();
        return howMany(what);
    }

    public long digest() {
        long h = 1249;
        for (int what = 0; what <= 6; what++) h = 31 * h + howMany(what);
        h = 31 * h + court.now.done;
        h = 31 * h + court.now.first;
        h = 31 * h + court.now.second;
        for (int p = 0; p < court.heirCount; p++) h = court.heirs[p].addTo(h);
        for (int i = 0; i < court.noteCount; i++) h = court.notes[i].addTo(h);
        h = 31 * h + above;
        return 31 * h + below;
    }

    // ---- refusals

    private int bad() {
        bads++;
        return BAD;
    }

    private int no() {
        noes++;
        return NO;
    }

    private int full() {
        fulls++;
        return FULL;
    }

    private static boolean outside(int number, int least, int most) {
        return number < least || number > most;
    }

    // ---- looks ahead, on a moment that is not the court's own

    private int daysToFriends(int change) {
        trial.become(court.now);
        for (int days = 0; days <= LONGEST_LOOK; days++) {
            if (trial.friendly()) return days;
            trial.warm(change);
        }
        return NONE;
    }

    private boolean staysQuarrelled(int fed, int change, int days) {
        trial.become(court.now);
        trial.warm(fed);
        for (int day = 0; day < days; day++) {
            if (trial.friendly()) return false;
            trial.warm(change);
        }
        return !trial.friendly();
    }

    private int lastingOf(int p, int q) {
        int days = daysToFriends(court.changeBy(p, q));
        return days == NONE ? LONGEST_LOOK + 1 : days;
    }

    private int bestPair() {
        int best = NONE, longest = NONE;
        for (int p = 0; p < court.heirCount; p++) {
            for (int q = p + 1; q < court.heirCount; q++) {
                int days = lastingOf(p, q);
                if (days > longest) {
                    longest = days;
                    best = 10 * p + q;
                }
            }
        }
        return best;
    }

    private int stuckPairs() {
        int stuck = 0;
        trial.become(court.now);
        for (int p = 0; p < court.heirCount; p++) {
            for (int q = p + 1; q < court.heirCount; q++) {
                trial.first = p;
                trial.second = q;
                if (court.actsOfBoth(trial) == 0) stuck++;
            }
        }
        return stuck;
    }

    /** Goes through the ways from this step on in their order, and keeps the first that has more than all before. */
    private void tryFrom(int step, int days, int had, int change) {
        if (had + days - step <= mostDone) return;
        if (step >= days || step >= MOST_PLANNED) {
            mostDone = had;
            System.arraycopy(way, 0, bestWay, 0, MOST_PLANNED);
            return;
        }
        int failuresTried = 0;
        for (int act = 0; act <= ACTS; act++) {
            if (act < ACTS && steps[step].isDone(act)) continue;
            Moment after = steps[step + 1];
            after.become(steps[step]);
            int who = act < ACTS ? court.askIn(after, act) : NO_ONE;
            // An act that fails leads to the same day as an earlier one that failed alike, so it can't have more.
            int failure = who == BOTH || act == ACTS ? 0 : who == NO_ONE ? 1 : 2;
            if ((failuresTried & failure) != 0) continue;
            failuresTried |= failure;
            way[step] = act;
            after.pass(1, change);
            tryFrom(step + 1, days, who == BOTH ? had + 1 : had, change);
        }
    }

    // ---- what a note tells, what one gets, how many there are

    private int kindsThatFit(int p) {
        int kinds = 0;
        for (int kind = 0; kind < KINDS; kind++) {
            if (court.fits(p, kind)) kinds |= 1 << kind;
        }
        return kinds;
    }

    private static int gain(Heir heir, int act, boolean lifts, boolean otherLifts) {
        if (lifts && otherLifts) {
            if (heir.likesAlone(act)) return 2;
            return heir.hatesAlone(act) ? -2 : 0;
        }
        if (lifts) return -1;
        return otherLifts ? 1 : 0;
    }

    private void setFraction(int top, int bottom) {
        int a = bottom, b = top;
        for (int i = 0; i < 100 && b > 0; i++) {
            int rest = a % b;
            a = b;
            b = rest;
        }
        if (a <= 0) return;
        above = top / a;
        below = bottom / a;
    }

    private int howMany(int what) {
        switch (what) {
            case 0: return court.heirCount;
            case 1: return court.now.date;
            case 2: return court.now.warmth;
            case 3: return Integer.bitCount(court.now.done);
            case 4: return court.noteCount;
            case 5: return court.pastCount;
            default: return text.length;
        }
    }

    // ---- the kinds, each under the one that it takes after

    private static class Plain {
        boolean lifts(boolean liked, boolean hated, int warmth, int date) {
            return liked || !hated && warmth < 60;
        }

        int adds(int temper) {
            return temper / 5;
        }
    }

    private static class Sulky extends Plain {
        boolean lifts(boolean liked, boolean hated, int warmth, int date) {
            return super.lifts(liked, hated, warmth, date) && warmth < 80;
        }

        int adds(int temper) {
            return super.adds(temper) + 1;
        }
    }

    private static class Joker extends Plain {
        int adds(int temper) {
            return super.adds(temper) - 3;
        }
    }

    private static final class Proud extends Plain {
        boolean lifts(boolean liked, boolean hated, int warmth, int date) {
            return liked;
        }
    }

    private static final class Tired extends Sulky {
        boolean lifts(boolean liked, boolean hated, int warmth, int date) {
            return super.lifts(liked, hated, warmth, date) || date % 7 == 0;
        }

        int adds(int temper) {
            return super.adds(temper) / 2;
        }
    }

    private static final class Forgiver extends Joker {
        boolean lifts(boolean liked, boolean hated, int warmth, int date) {
            return super.lifts(liked, hated, warmth, date) || warmth < 30;
        }

        int adds(int temper) {
            return 2 * super.adds(temper);
        }
    }

    // ---- what a court is made of

    private static final class Heir {
        int kind, likes, hates, temper;

        void put(int newKind, int newLikes, int newHates, int newTemper) {
            kind = newKind;
            likes = newLikes;
            hates = newHates;
            temper = newTemper;
        }

        void feel(int newLikes, int newHates) {
            likes = newLikes;
            hates = newHates;
        }

        void become(Heir other) {
            put(other.kind, other.likes, other.hates, other.temper);
        }

        boolean likesAlone(int act) {
            return (likes & ~hates & 1 << act) != 0;
        }

        boolean hatesAlone(int act) {
            return (hates & ~likes & 1 << act) != 0;
        }

        long addTo(long hash) {
            long h = 31 * hash + kind;
            h = 31 * h + likes;
            h = 31 * h + hates;
            return 31 * h + temper;
        }
    }

    private static final class Note {
        int heir, act, warmth, date, lifted;

        void put(int newHeir, int newAct, int newWarmth, int newDate, int newLifted) {
            heir = newHeir;
            act = newAct;
            warmth = newWarmth;
            date = newDate;
            lifted = newLifted;
        }

        void become(Note other) {
            put(other.heir, other.act, other.warmth, other.date, other.lifted);
        }

        long addTo(long hash) {
            long h = 31 * hash + heir;
            h = 31 * h + act;
            h = 31 * h + warmth;
            h = 31 * h + date;
            return 31 * h + lifted;
        }
    }

    /** All that may be undone: how things stand on a day. */
    private static final class Moment {
        int warmth = FIRST_WARMTH, date = 0, done = 0, first = NONE, second = NONE;

        void begin(int newWarmth) {
            warmth = newWarmth;
            date = 0;
            done = 0;
            first = NONE;
            second = NONE;
        }

        void become(Moment other) {
            warmth = other.warmth;
            date = other.date;
            done = other.done;
            first = other.first;
            second = other.second;
        }

        void warm(int more) {
            warmth = Math.max(0, Math.min(MOST_WARMTH, warmth + more));
        }

        void pass(int days, int change) {
            for (int i = 0; i < days; i++) warm(change);
            date += days;
        }

        boolean friendly() {
            return warmth < FRIENDS_BELOW;
        }

        boolean isDone(int act) {
            return (done & 1 << act) != 0;
        }

        int sideOf(int p) {
            if (p == first) return 1;
            return p == second ? 2 : 0;
        }
    }

    /** All that an image keeps. */
    private static final class Court {
        final Plain[] kinds;
        final Heir[] heirs = new Heir[MOST_HEIRS];
        final Note[] notes = new Note[MOST_NOTES];
        final Moment[] past = new Moment[MOST_UNDONE];
        final Moment now = new Moment();
        int heirCount = 0;
        int noteCount = 0;
        int pastCount = 0;

        Court(Plain[] allKinds) {
            kinds = allKinds;
            for (int i = 0; i < MOST_HEIRS; i++) heirs[i] = new Heir();
            for (int i = 0; i < MOST_NOTES; i++) notes[i] = new Note();
            for (int i = 0; i < MOST_UNDONE; i++) past[i] = new Moment();
        }

        void begin(int warmth) {
            now.begin(warmth);
            heirCount = 0;
            noteCount = 0;
            pastCount = 0;
        }

        void become(Court other) {
            now.become(other.now);
            heirCount = other.heirCount;
            noteCount = other.noteCount;
            pastCount = other.pastCount;
            for (int i = 0; i < heirCount; i++) heirs[i].become(other.heirs[i]);
            for (int i = 0; i < noteCount; i++) notes[i].become(other.notes[i]);
            for (int i = 0; i < pastCount; i++) past[i].become(other.past[i]);
        }

        boolean has(int p) {
            return p >= 0 && p < heirCount;
        }

        boolean hasTwo(int p, int q) {
            return has(p) && has(q) && p != q;
        }

        boolean paired(Moment moment) {
            return hasTwo(moment.first, moment.second);
        }

        int admit(int kind, int likes, int hates, int temper) {
            if (heirCount >= MOST_HEIRS) return FULL;
            heirs[heirCount].put(kind, likes, hates, temper);
            pastCount = 0;
            heirCount++;
            return heirCount - 1;
        }

        void remember() {
            if (pastCount >= MOST_UNDONE) forgetOldest();
            past[pastCount].become(now);
            pastCount++;
        }

        private void forgetOldest() {
            for (int i = 1; i < MOST_UNDONE; i++) past[i - 1].become(past[i]);
            pastCount = MOST_UNDONE - 1;
        }

        void goBack() {
            if (pastCount <= 0) return;
            pastCount--;
            now.become(past[pastCount]);
        }

        int addedBy(int p) {
            Heir heir = heirs[p];
            return kinds[heir.kind].adds(heir.temper);
        }

        int changeBy(int p, int q) {
            return addedBy(p) + addedBy(q) - COOLING;
        }

        int changeInADay(Moment moment) {
            return paired(moment) ? changeBy(moment.first, moment.second) : -COOLING;
        }

        void passDays(Moment moment, int days) {
            moment.pass(days, changeInADay(moment));
        }

        boolean lifts(int p, int kind, int act, int warmth, int date) {
            Heir heir = heirs[p];
            return kinds[kind].lifts(heir.likesAlone(act), heir.hatesAlone(act), warmth, date);
        }

        int liftersIn(Moment moment, int act) {
            int one = moment.first, other = moment.second;
            int who = NO_ONE;
            if (lifts(one, heirs[one].kind, act, moment.warmth, moment.date)) who |= 1;
            if (lifts(other, heirs[other].kind, act, moment.warmth, moment.date)) who |= 2;
            return who;
        }

        int actsOfBoth(Moment moment) {
            int acts = 0;
            for (int act = 0; act < ACTS; act++) {
                if (liftersIn(moment, act) == BOTH) acts |= 1 << act;
            }
            return acts;
        }

        int askIn(Moment moment, int act) {
            int who = liftersIn(moment, act);
            if (who == BOTH) {
                moment.done |= 1 << act;
                moment.warm(-2);
            } else {
                moment.warm(who == NO_ONE ? 1 : 5);
            }
            return who;
        }

        int kindsThatLift(int p, int act) {
            int lifting = 0;
            for (int kind = 0; kind < KINDS; kind++) {
                if (lifts(p, kind, act, now.warmth, now.date)) lifting |= 1 << kind;
            }
            return lifting;
        }

        boolean fits(int p, int kind) {
            for (int i = 0; i < noteCount; i++) {
                Note note = notes[i];
                if (note.heir != p) continue;
                boolean lifted = lifts(p, kind, note.act, note.warmth, note.date);
                if (lifted != (note.lifted == 1)) return false;
            }
            return true;
        }
    }

    /** The text that tells a court, and the one of its tokens that is looked at. */
    private static final class CourtText {
        static final int END = 0, WORD = 1, NUMBER = 2, ENDING = 3, STRANGE = 4, MOST_FIGURES = 2;

        final int[] bytes = new int[MOST_TEXT];
        int length = 0;
        int place = 0;
        int behind = 0;
        int sort = END;
        int number = 0;

        void append(int c) {
            if (length >= MOST_TEXT) return;
            bytes[length] = c;
            length++;
        }

        /** How many items were read; NONE: the token at the place can not stand there. */
        int parseInto(Court into) {
            behind = 0;
            advance();
            if (!courtItem(into)) return NONE;
            int items = 1;
            for (; items < MOST_TEXT && sort != END; items++) {
                if (!laterItem(into)) return NONE;
            }
            return items;
        }

        private boolean courtItem(Court into) {
            if (!isWord("court")) return false;
            advance();
            int warmth = takeNumber(MOST_WARMTH, NONE);
            if (warmth == NONE) return false;
            into.begin(warmth);
            return takeEnding();
        }

        private boolean laterItem(Court into) {
            if (isWord("heir")) return heirItem(into);
            if (isWord("like")) return heartItem(into, true);
            if (isWord("hate")) return heartItem(into, false);
            if (isWord("pair")) return pairItem(into);
            return false;
        }

        private boolean heirItem(Court into) {
            if (into.heirCount >= MOST_HEIRS) return false;
            advance();
            int kind = takeNumber(KINDS - 1, NONE);
            if (kind == NONE) return false;
            int temper = takeNumber(MOST_TEMPER, NONE);
            if (temper == NONE) return false;
            into.admit(kind, 0, 0, temper);
            return takeEnding();
        }

        private boolean heartItem(Court into, boolean liked) {
            advance();
            int p = takeNumber(into.heirCount - 1, NONE);
            if (p == NONE) return false;
            int acts = 0;
            for (int i = 0; i < MOST_TEXT && sort == NUMBER; i++) {
                int act = takeNumber(ACTS - 1, NONE);
                if (act == NONE) return false;
                acts |= 1 << act;
            }
            Heir heir = into.heirs[p];
            heir.feel(liked ? acts : heir.likes, liked ? heir.hates : acts);
            return takeEnding();
        }

        private boolean pairItem(Court into) {
            advance();
            int p = takeNumber(into.heirCount - 1, NONE);
            if (p == NONE) return false;
            int q = takeNumber(into.heirCount - 1, p);
            if (q == NONE) return false;
            into.now.first = p;
            into.now.second = q;
            return takeEnding();
        }

        /** The number that stands here, if it is at most so much and not the other one; else NONE, and it stays. */
        private int takeNumber(int most, int other) {
            if (sort != NUMBER || number > most || number == other) return NONE;
            int taken = number;
            advance();
            return taken;
        }

        private boolean takeEnding() {
            if (sort != ENDING) return false;
            advance();
            return true;
        }

        private boolean isWord(String word) {
            if (sort != WORD || behind - place != word.length()) return false;
            for (int i = 0; i < word.length(); i++) {
                if (bytes[place + i] != word.charAt(i)) return false;
            }
            return true;
        }

        private void advance() {
            while (behind < length && bytes[behind] == ' ') behind++;
            place = behind;
            sort = sortAt(place);
            number = 0;
            if (sort == WORD) {
                while (behind < length && sortAt(behind) == WORD) behind++;
            } else if (sort == NUMBER) {
                while (behind < length && sortAt(behind) == NUMBER) {
                    number = 10 * number + bytes[behind] - '0';
                    behind++;
                }
                if (behind - place > MOST_FIGURES) sort = STRANGE;
            } else if (sort != END) {
                behind++;
            }
        }

        private int sortAt(int at) {
            if (at >= length) return END;
            int c = bytes[at];
            if (c >= 'a' && c <= 'z') return WORD;
            if (c >= '0' && c <= '9') return NUMBER;
            return c == ';' ? ENDING : STRANGE;
        }
    }
}
