import java.util.ArrayDeque;
import java.util.ArrayList;
import java.util.Arrays;
import java.util.Deque;
import java.util.List;
import java.util.regex.Matcher;
import java.util.regex.Pattern;

/** The document once more, with values that are never changed and ways that are all gone through: to be held against CrownTwo. */
final class SlowCrown {
    record Heir(int kind, int like, int hate, int temper) {
        boolean lifts(int asKind, int act, int w, int d) {
            boolean in = (like >> act & 1) == 1, out = (hate >> act & 1) == 1;
            boolean l = in && !out, k = out && !in;
            boolean plain = l || (!k && w < 60);
            return switch (asKind) {
                case 0, 2 -> plain;
                case 1 -> plain && w < 80;
                case 3 -> l;
                case 4 -> (plain && w < 80) || d % 7 == 0;
                default -> plain || w < 30;
            };
        }

        int makes() {
            int t = temper / 5;
            return switch (kind) {
                case 0, 3 -> t;
                case 1 -> t + 1;
                case 2 -> t - 3;
                case 4 -> (t + 1) / 2;
                default -> 2 * t - 6;
            };
        }
    }

    record Note(int p, int act, int w, int d, int lifted) { }

    record Now(int warmth, int day, int done, int p, int q) { }

    record All(Now now, List<Heir> heirs, List<Note> notes, List<Now> past) { }

    private All all = fresh(50);
    private final All[] images = new All[2];
    private final StringBuilder text = new StringBuilder();
    private final int[] refused = new int[3];
    private long above = 0, below = 1;

    private static All fresh(int warmth) {
        return new All(new Now(warmth, 0, 0, -1, -1), List.of(), List.of(), List.of());
    }

    private long refuse(int answer) {
        refused[-2 - answer]++;
        return answer;
    }

    private boolean isHeir(long p) {
        return p >= 0 && p < all.heirs.size();
    }

    private static boolean in(long v, long a, long b) {
        return v >= a && v <= b;
    }

    private static int within(int w) {
        return Math.max(0, Math.min(99, w));
    }

    private Now dayFrom(Now n) {
        int more = n.p < 0 ? 0 : all.heirs.get(n.p).makes() + all.heirs.get(n.q).makes();
        return new Now(within(n.warmth + more - 2), n.day + 1, n.done, n.p, n.q);
    }

    private Now daysFrom(Now n, int days) {
        Now at = n;
        for (int i = 0; i < days; i++) at = dayFrom(at);
        return at;
    }

    private int who(Now n, int act) {
        Heir a = all.heirs.get(n.p), b = all.heirs.get(n.q);
        return (a.lifts(a.kind, act, n.warmth, n.day) ? 1 : 0) + (b.lifts(b.kind, act, n.warmth, n.day) ? 2 : 0);
    }

    private Now askFrom(Now n, int act) {
        int[] more = {1, 5, 5, -2};
        int who = who(n, act);
        return new Now(within(n.warmth + more[who]), n.day, who == 3 ? n.done | 1 << act : n.done, n.p, n.q);
    }

    private void go(Now next) {
        List<Now> past = new ArrayList<>(all.past);
        past.add(all.now);
        if (past.size() > 8) past.remove(0);
        all = new All(next, all.heirs, all.notes, past);
    }

    private static <T> List<T> with(List<T> list, T more) {
        List<T> longer = new ArrayList<>(list);
        longer.add(more);
        return longer;
    }

    /** A call by its name and its numbers; what it answers. */
    long call(String name, int... a) {
        return switch (name) {
            case "court", "heir", "type", "clear", "read" -> courtCall(name, a);
            case "pair", "ask", "day", "feed", "undo", "of", "makes" -> dayCall(name, a);
            case "lift", "both", "friends", "then", "most", "keep" -> liftCall(name, a);
            case "lasts", "pairs" -> pairCall(name, a);
            case "note", "forget", "is", "heart", "next" -> noteCall(name, a);
            case "spite", "slips", "reigns" -> pairGame(name, a);
            default -> standCall(name, a);
        };
    }

    private long courtCall(String name, int[] a) {
        switch (name) {
            case "court": {
                if (!in(a[0], 0, 99)) return refuse(-2);
                int had = all.heirs.size();
                all = fresh(a[0]);
                return had;
            }
            case "heir": {
                if (!in(a[0], 0, 5) || !in(a[1], 0, 255) || !in(a[2], 0, 255) || !in(a[3], 0, 20)) return refuse(-2);
                if (all.heirs.size() == 6) return refuse(-4);
                all = new All(all.now, with(all.heirs, new Heir(a[0], a[1], a[2], a[3])), all.notes, List.of());
                return all.heirs.size() - 1;
            }
            case "type":
                if (!in(a[0], 0, 127)) return refuse(-2);
                if (text.length() == 150) return refuse(-4);
                return text.append((char) a[0]).length();
            case "clear": {
                int had = text.length();
                text.setLength(0);
                return had;
            }
            default:
                return new SlowReader().read();
        }
    }

    private long dayCall(String name, int[] a) {
        Now n = all.now;
        switch (name) {
            case "pair":
                if (!isHeir(a[0]) || !isHeir(a[1]) || a[0] == a[1]) return refuse(-2);
                go(new Now(n.warmth, n.day, n.done, a[0], a[1]));
                return 1;
            case "ask": {
                if (!in(a[0], 0, 7)) return refuse(-2);
                if (n.p < 0 || (n.done >> a[0] & 1) == 1) return refuse(-3);
                go(askFrom(n, a[0]));
                return who(n, a[0]);
            }
            case "day":
                if (!in(a[0], 1, 60)) return refuse(-2);
                go(daysFrom(n, a[0]));
                return all.now.warmth;
            case "feed":
                if (!in(a[0], 1, 20)) return refuse(-2);
                go(new Now(within(n.warmth + a[0]), n.day, n.done, n.p, n.q));
                return all.now.warmth;
            case "undo": {
                int size = all.past.size();
                if (size == 0) return refuse(-3);
                all = new All(all.past.get(size - 1), all.heirs, all.notes, all.past.subList(0, size - 1));
                return all.now.day;
            }
            case "of": {
                if (!isHeir(a[0]) || !in(a[1], 0, 4)) return refuse(-2);
                Heir h = all.heirs.get(a[0]);
                int side = a[0] == n.p ? 1 : a[0] == n.q ? 2 : 0;
                return new int[] {h.kind, h.like, h.hate, h.temper, side}[a[1]];
            }
            default:
                if (isHeir(a[0])) return all.heirs.get(a[0]).makes();
                refuse(-2);
                return -100;
        }
    }

    private long liftCall(String name, int[] a) {
        Now n = all.now;
        switch (name) {
            case "lift":
                if (!in(a[0], 0, 7)) return refuse(-2);
                return n.p < 0 ? refuse(-3) : who(n, a[0]);
            case "both":
                if (!in(a[0], 0, 60)) return refuse(-2);
                return n.p < 0 ? refuse(-3) : bothIn(daysFrom(n, a[0]));
            case "friends": {
                int days = daysToFriends(n);
                return days > 90 ? -1 : days;
            }
            case "then":
                return in(a[0], 0, 90) ? daysFrom(n, a[0]).warmth : refuse(-2);
            case "most":
                if (!in(a[0], 1, 4) || a[1] < -1) {
                    refuse(-2);
                    return -10;
                }
                if (n.p < 0) return refuse(-3);
                return a[1] >= a[0] ? -5 : most(a[0])[a[1] + 1];
            default:
                if (!in(a[0], 1, 60)) return refuse(-2);
                for (int x = 0; x <= 99; x++) {
                    int days = daysToFriends(new Now(within(n.warmth + x), n.day, n.done, n.p, n.q));
                    if (days > a[0]) return x;
                }
                return -1;
        }
    }

    private int bothIn(Now n) {
        int acts = 0;
        for (int act = 0; act < 8; act++) if (who(n, act) == 3) acts += 1 << act;
        return acts;
    }

    /** 91: in none of 90 days. */
    private int daysToFriends(Now n) {
        Now at = n;
        for (int d = 0; d <= 90; d++, at = dayFrom(at)) if (at.warmth < 10) return d;
        return 91;
    }

    /** All 9 by n ways, counted up like a number; the first of the best: how many, then its acts. */
    private int[] most(int n) {
        int ways = (int) Math.pow(9, n);
        int[] best = {-1};
        for (int w = 0; w < ways; w++) {
            int[] plan = new int[n + 1];
            for (int i = n, rest = w; i > 0; i--, rest /= 9) plan[i] = rest % 9;
            Now at = all.now;
            boolean can = true;
            for (int i = 1; i <= n && can; i++) {
                can = plan[i] == 8 || (at.done >> plan[i] & 1) == 0;
                if (can) at = dayFrom(plan[i] == 8 ? at : askFrom(at, plan[i]));
            }
            plan[0] = Integer.bitCount(at.done) - Integer.bitCount(all.now.done);
            if (can && plan[0] > best[0]) best = plan;
        }
        return best;
    }

    private long pairCall(String name, int[] a) {
        Now n = all.now;
        if (name.equals("lasts")) {
            if (!isHeir(a[0]) || !isHeir(a[1]) || a[0] == a[1]) return refuse(-2);
            return daysToFriends(new Now(n.warmth, n.day, n.done, a[0], a[1]));
        }
        if (!in(a[0], 0, 1)) return refuse(-2);
        int best = -1, longest = -1, stuck = 0;
        for (int code = 0; code < 60; code++) {
            int p = code / 10, q = code % 10;
            if (p >= q || !isHeir(q)) continue;
            Now as = new Now(n.warmth, n.day, n.done, p, q);
            if (bothIn(as) == 0) stuck++;
            if (daysToFriends(as) > longest) {
                longest = daysToFriends(as);
                best = code;
            }
        }
        return a[0] == 0 ? best : stuck;
    }

    private boolean notesAreSo(int p, Heir as, int kind) {
        return all.notes.stream().filter(t -> t.p == p)
                .allMatch(t -> as.lifts(kind, t.act, t.w, t.d) == (t.lifted == 1));
    }

    private List<Integer> kindsOf(int p) {
        List<Integer> kinds = new ArrayList<>();
        for (int kind = 0; kind < 6; kind++) if (notesAreSo(p, all.heirs.get(p), kind)) kinds.add(kind);
        return kinds;
    }

    private long noteCall(String name, int[] a) {
        switch (name) {
            case "note":
                if (!isHeir(a[0]) || !in(a[1], 0, 7) || !in(a[2], 0, 99) || !in(a[3], 0, 99) || !in(a[4], 0, 1)) {
                    return refuse(-2);
                }
                if (all.notes.size() == 6) return refuse(-4);
                all = new All(all.now, all.heirs, with(all.notes, new Note(a[0], a[1], a[2], a[3], a[4])), all.past);
                return all.notes.size();
            case "forget": {
                int had = all.notes.size();
                all = new All(all.now, all.heirs, List.of(), all.past);
                return had;
            }
            case "is":
                if (!isHeir(a[0])) return refuse(-2);
                return kindsOf(a[0]).stream().mapToInt(k -> 1 << k).sum();
            case "heart": {
                if (!isHeir(a[0]) || !in(a[1], 0, 7)) return refuse(-2);
                Heir h = all.heirs.get(a[0]);
                int bit = 1 << a[1], like = h.like & ~bit, hate = h.hate & ~bit;
                Heir[] may = {new Heir(h.kind, like + bit, hate, 0), new Heir(h.kind, like, hate + bit, 0),
                    new Heir(h.kind, like, hate, 0)};
                int bits = 0;
                for (int i = 0; i < 3; i++) if (notesAreSo(a[0], may[i], h.kind)) bits += 1 << i;
                return bits;
            }
            default:
                return isHeir(a[0]) ? next(a[0]) : refuse(-2);
        }
    }

    private int next(int p) {
        List<Integer> kinds = kindsOf(p);
        if (kinds.isEmpty()) return -1;
        int[] greater = new int[8];
        for (int act = 0; act < 8; act++) {
            int at = act;
            int lifting = (int) kinds.stream()
                    .filter(k -> all.heirs.get(p).lifts(k, at, all.now.warmth, all.now.day)).count();
            greater[act] = Math.max(lifting, kinds.size() - lifting);
        }
        int least = Arrays.stream(greater).min().getAsInt();
        int act = 0;
        while (greater[act] != least) act++;
        return act;
    }

    private long pairGame(String name, int[] a) {
        Now n = all.now;
        boolean told = switch (name) {
            case "spite" -> in(a[0], 0, 7);
            case "slips" -> in(a[0], 0, 7) && in(a[1], 0, 10);
            default -> in(a[0], 0, 999999) && in(a[1], 0, 60);
        };
        if (!told) return refuse(-2);
        if (n.p < 0) return refuse(-3);
        if (name.equals("spite")) return resting(a[0]);
        if (name.equals("slips")) {
            setChance(who(n, a[0]), a[1]);
            return 1;
        }
        Now at = n;
        java.math.BigInteger x = java.math.BigInteger.valueOf(a[0]);
        for (int i = 0; i < a[1]; i++) {
            x = x.multiply(java.math.BigInteger.valueOf(1103515245)).add(java.math.BigInteger.valueOf(12345))
                    .mod(java.math.BigInteger.valueOf(2147483648L));
            int act = x.intValueExact() / 65536 % 8;
            if ((at.done >> act & 1) == 0) at = askFrom(at, act);
            at = dayFrom(at);
        }
        return Integer.bitCount(at.done);
    }

    private int resting(int act) {
        Heir[] two = {all.heirs.get(all.now.p), all.heirs.get(all.now.q)};
        int[][] gets = new int[4][2];
        for (int i = 0; i < 2; i++) {
            int mine = 1 << i, others = 3 - mine;
            gets[mine][i] = -1;
            gets[others][i] = 1;
            gets[3][i] = 2 * ((two[i].like >> act & 1) - (two[i].hate >> act & 1));
        }
        int bits = 0;
        for (int who = 0; who < 4; who++) {
            if (gets[who][0] >= gets[who ^ 1][0] && gets[who][1] >= gets[who ^ 2][1]) bits += 1 << who;
        }
        return bits;
    }

    /** Goes through the 100 ways in which two heralds run by tenths. */
    private void setChance(int who, int c) {
        int both = 0;
        for (int run = 0; run < 100; run++) {
            boolean first = (who & 1) != 0 ^ run / 10 < c, second = (who & 2) != 0 ^ run % 10 < c;
            if (first && second) both++;
        }
        below = 1;
        while (both * below % 100 != 0) below++;
        above = both * below / 100;
    }

    private long standCall(String name, int[] a) {
        switch (name) {
            case "part":
                return in(a[0], 0, 1) ? (a[0] == 0 ? above : below) : refuse(-2);
            case "image":
                if (!in(a[0], 0, 1)) return refuse(-2);
                images[a[0]] = all;
                return 1;
            case "from":
                if (!in(a[0], 0, 1)) return refuse(-2);
                if (images[a[0]] == null) return refuse(-3);
                all = images[a[0]];
                return 1;
            case "status":
                if (in(a[0], 0, 2)) return refused[a[0]];
                refuse(-2);
                return -1;
            case "count":
                return in(a[0], 0, 6) ? counts()[a[0]] : refuse(-2);
            default:
                return digest();
        }
    }

    private int[] counts() {
        return new int[] {all.heirs.size(), all.now.day, all.now.warmth, Integer.bitCount(all.now.done),
            all.notes.size(), all.past.size(), text.length()};
    }

    private long digest() {
        List<Long> values = new ArrayList<>();
        for (int v : counts()) values.add((long) v);
        for (int v : new int[] {all.now.done, all.now.p, all.now.q}) values.add((long) v);
        for (Heir h : all.heirs) for (int v : new int[] {h.kind, h.like, h.hate, h.temper}) values.add((long) v);
        for (Note t : all.notes) for (int v : new int[] {t.p, t.act, t.w, t.d, t.lifted}) values.add((long) v);
        values.add(above);
        values.add(below);
        return values.stream().reduce(1249L, (h, v) -> 31 * h + v);
    }

    /** The text is cut into tokens first, all of them, and eaten from the front. */
    private final class SlowReader {
        private final Deque<String> tokens = new ArrayDeque<>();
        private final Deque<Integer> places = new ArrayDeque<>();
        private final List<Heir> heirs = new ArrayList<>();
        private int warmth, p = -1, q = -1;

        long read() {
            Matcher m = Pattern.compile("[a-z]+|[0-9]+|[^ ]", Pattern.DOTALL).matcher(text);
            while (m.find()) {
                tokens.add(m.group());
                places.add(m.start());
            }
            int items = 0;
            do {
                if (!item(items == 0)) return -10 - (places.isEmpty() ? text.length() : places.peek());
                items++;
            } while (!tokens.isEmpty());
            all = new All(new Now(warmth, 0, 0, p, q), List.copyOf(heirs), List.of(), List.of());
            return items;
        }

        private boolean item(boolean first) {
            String word = tokens.isEmpty() ? "" : tokens.peek();
            if (first != word.equals("court") || !List.of("court", "heir", "like", "hate", "pair").contains(word)) {
                return false;
            }
            if (word.equals("heir") && heirs.size() == 6) return false;
            eat();
            return switch (word) {
                case "court" -> (warmth = number(99)) >= 0 && ending();
                case "heir" -> heir() && ending();
                case "pair" -> pair() && ending();
                default -> acts(word.equals("like")) && ending();
            };
        }

        private boolean heir() {
            int kind = number(5);
            int temper = kind < 0 ? -1 : number(20);
            if (temper >= 0) heirs.add(new Heir(kind, 0, 0, temper));
            return temper >= 0;
        }

        private boolean pair() {
            int a = number(heirs.size() - 1);
            if (a < 0 || (!tokens.isEmpty() && tokens.peek().matches("0?" + a))) return false;
            int b = number(heirs.size() - 1);
            if (b < 0) return false;
            p = a;
            q = b;
            return true;
        }

        private boolean acts(boolean liked) {
            int of = number(heirs.size() - 1);
            if (of < 0) return false;
            int bits = 0;
            for (int act = number(7); act >= 0; act = number(7)) bits |= 1 << act;
            Heir h = heirs.get(of);
            heirs.set(of, new Heir(h.kind, liked ? bits : h.like, liked ? h.hate : bits, h.temper));
            return true;
        }

        private int number(int most) {
            if (tokens.isEmpty() || !tokens.peek().matches("[0-9]{1,2}")) return -1;
            int v = Integer.parseInt(tokens.peek());
            if (v > most) return -1;
            eat();
            return v;
        }

        private boolean ending() {
            if (!";".equals(tokens.peek())) return false;
            eat();
            return true;
        }

        private void eat() {
            tokens.remove();
            places.remove();
        }
    }
}
