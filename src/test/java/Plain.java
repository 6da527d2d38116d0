import java.math.BigInteger;
import java.util.ArrayList;
import java.util.Arrays;
import java.util.HashMap;
import java.util.List;
import java.util.Map;
import java.util.Random;

/** The document's words once more, as plainly and slowly as can be, to compare LetterThrough with. */
final class Plain {
    static final class Refused extends RuntimeException {
        final int fault;

        Refused(int place, int kind) {
            super(null, null, false, false);
            fault = 1 + 8 * place + kind;
        }
    }

    record Token(char kind, String text, int place) { }

    static final class Line {
        int a, b, chance, days = 1;
        boolean one;

        Line copy() {
            Line l = new Line();
            l.a = a; l.b = b; l.chance = chance; l.days = days; l.one = one;
            return l;
        }
    }

    record Keep(int place, int chance) { }

    record Cause(int chance, List<Integer> lines, List<Integer> places) { }

    static final class Land {
        int n = 2;
        List<Line> lines = new ArrayList<>();
        List<Keep> keeps = new ArrayList<>();
        List<Cause> causes = new ArrayList<>();
        String what = "all";
        int amount, a, b;
        final Map<Integer, Boolean> memo = new HashMap<>();

        Land copy() {
            Land c = new Land();
            c.n = n;
            for (Line l : lines) c.lines.add(l.copy());
            c.keeps.addAll(keeps);
            c.causes.addAll(causes);
            c.what = what; c.amount = amount; c.a = a; c.b = b;
            return c;
        }

        int m() { return lines.size() + keeps.size() + causes.size(); }

        int chance(int t) {
            if (t < lines.size()) return lines.get(t).chance;
            if (t < lines.size() + keeps.size()) return keeps.get(t - lines.size()).chance;
            return causes.get(t - lines.size() - keeps.size()).chance;
        }

        boolean stands(int p, long set) {
            for (int k = 0; k < keeps.size(); k++) {
                if (keeps.get(k).place == p && (set >> lines.size() + k & 1) == 0) return false;
            }
            for (int c = 0; c < causes.size(); c++) {
                if (causes.get(c).places.contains(p) && (set >> lines.size() + keeps.size() + c & 1) == 0) return false;
            }
            return true;
        }

        boolean open(int i, long set) {
            if ((set >> i & 1) == 0) return false;
            for (int c = 0; c < causes.size(); c++) {
                if (causes.get(c).lines.contains(i) && (set >> lines.size() + keeps.size() + c & 1) == 0) return false;
            }
            return stands(lines.get(i).a, set) && stands(lines.get(i).b, set);
        }

        int openMask(long set) {
            int mask = 0;
            for (int i = 0; i < lines.size(); i++) if (open(i, set)) mask |= 1 << i;
            return mask;
        }

        /** Sets of lines of all simple ways from a to b, with the days of each. */
        void walk(int at, int b, int been, int used, int days, int open, List<int[]> out) {
            if (at == b) {
                out.add(new int[] {used, days});
                return;
            }
            for (int i = 0; i < lines.size(); i++) {
                if ((open >> i & 1) == 0) continue;
                Line l = lines.get(i);
                int next = l.a == at ? l.b : l.b == at && !l.one ? l.a : -1;
                if (next < 0 || (been >> next & 1) != 0) continue;
                walk(next, b, been | 1 << next, used | 1 << i, days + l.days, open, out);
            }
        }

        List<int[]> allWays(int a, int b, int open) {
            List<int[]> out = new ArrayList<>();
            walk(a, b, 1 << a, 0, 0, open, out);
            return out;
        }

        boolean leads(int a, int b, int open) {
            return a == b || !allWays(a, b, open).isEmpty();
        }

        int fewestDays(int a, int b, int open) {
            int least = 1000;
            for (int[] w : allWays(a, b, open)) least = Math.min(least, w[1]);
            return least;
        }

        boolean through(long set) {
            int standing = 0;
            for (int p = 0; p < n; p++) if (stands(p, set)) standing |= 1 << p;
            int open = openMask(set);
            int key = open << 10 | standing;
            Boolean known = memo.get(key);
            if (known == null) {
                known = throughBy(standing, open);
                memo.put(key, known);
            }
            return known;
        }

        boolean throughBy(int standing, int open) {
            boolean standA = (standing >> a & 1) != 0;
            boolean standB = (standing >> b & 1) != 0;
            switch (what) {
                case "one": return standA && standB && leads(a, b, open);
                case "days": return standA && standB && fewestDays(a, b, open) <= amount;
                case "two":
                    if (!standA || !standB) return false;
                    List<int[]> ways = allWays(a, b, open);
                    for (int[] v : ways) for (int[] w : ways) if ((v[0] & w[0]) == 0) return true;
                    return false;
                case "some":
                    int count = 0;
                    for (int p = 0; p < n; p++) if (leads(a, p, open)) count++;
                    return standA && count >= amount;
                default:
                    if (standing != (1 << n) - 1) return false;
                    for (int p = 0; p < n; p++) for (int q = 0; q < n; q++) if (!leads(p, q, open)) return false;
                    return true;
            }
        }

        long odds(long set, int leaveOut) {
            long product = 1;
            for (int t = 0; t < m(); t++) {
                if (t == leaveOut) continue;
                product = Math.multiplyExact(product, (set >> t & 1) != 0 ? chance(t) : 16 - chance(t));
            }
            return product;
        }

        long chance() {
            long sum = 0;
            for (long s = 0; s < 1L << m(); s++) if (through(s)) sum = Math.addExact(sum, odds(s, -1));
            return sum;
        }

        boolean agrees(long set, List<int[]> letters) {
            for (int[] l : letters) {
                boolean came = stands(l[0], set) && stands(l[1], set) && leadsMemo(l[0], l[1], openMask(set));
                if (came != (l[2] == 1)) return false;
            }
            return true;
        }

        final Map<Integer, Boolean> leadMemo = new HashMap<>();
        final Map<Integer, Integer> dayMemo = new HashMap<>();

        boolean leadsMemo(int a, int b, int open) {
            return leadMemo.computeIfAbsent((a * 10 + b) << 12 | open, k -> leads(a, b, open));
        }

        int daysMemo(int a, int b, int open) {
            return dayMemo.computeIfAbsent((a * 10 + b) << 12 | open, k -> fewestDays(a, b, open));
        }
    }

    StringBuilder tape = new StringBuilder();
    Land land = new Land();
    List<int[]> mendings = new ArrayList<>();
    List<int[]> letters = new ArrayList<>();
    int mendedSet = -1;
    int mendedCoins = -1;
    final Object[][] images = new Object[4][];
    final Random order = new Random(7);

    static long pow16(int k) {
        return BigInteger.valueOf(16).pow(k).longValueExact();
    }

    int feed(int... numbers) {
        if (tape.length() + 20 > 400) return -1;
        for (int number : numbers) {
            tape.append((char) (number >> 24 & 255)).append((char) (number >> 16 & 255));
            tape.append((char) (number >> 8 & 255)).append((char) (number & 255));
        }
        return tape.length();
    }

    int end(int n) {
        if (n < 0 || n > tape.length()) return -1;
        tape.setLength(n);
        return n;
    }

    // ---- the text, by way of tokens ----

    List<Token> tokens;
    int next;

    static List<Token> tokensOf(String text) {
        List<Token> out = new ArrayList<>();
        int i = 0;
        while (i < text.length()) {
            char c = text.charAt(i);
            int j = i + 1;
            if (c == ' ') {
                i++;
                continue;
            }
            char kind = c == ';' ? ';' : '?';
            if (c >= '0' && c <= '9') {
                kind = '1';
                while (j < text.length() && text.charAt(j) >= '0' && text.charAt(j) <= '9') j++;
            } else if (c >= 'a' && c <= 'z') {
                kind = 'a';
                while (j < text.length() && text.charAt(j) >= 'a' && text.charAt(j) <= 'z') j++;
            }
            out.add(new Token(kind, text.substring(i, j), i));
            i = j;
        }
        out.add(new Token('.', "", text.length()));
        return out;
    }

    Token peek() { return tokens.get(next); }

    Token word(String... allowed) {
        Token t = peek();
        if (t.kind != 'a' || !Arrays.asList(allowed).contains(t.text)) throw new Refused(t.place, 0);
        next++;
        return t;
    }

    int number(int low, int high, int but) {
        Token t = peek();
        if (t.kind != '1') throw new Refused(t.place, 0);
        if (t.text.length() > 2) throw new Refused(t.place, 1);
        int v = Integer.parseInt(t.text);
        if (v < low || v > high || v == but) throw new Refused(t.place, 1);
        next++;
        return v;
    }

    Land parse(String text) {
        tokens = tokensOf(text);
        next = 0;
        Land l = new Land();
        word("places");
        l.n = number(2, 10, -1);
        boolean through = false;
        while (peek().kind != '.') {
            if (peek().kind != ';') throw new Refused(peek().place, 0);
            next++;
            Token w = word("line", "keep", "cause", "through");
            if (!w.text.equals("through") && l.m() == 15) throw new Refused(w.place, 3);
            switch (w.text) {
                case "line": {
                    if (l.lines.size() == 12) throw new Refused(w.place, 3);
                    Line line = new Line();
                    line.a = number(0, l.n - 1, -1);
                    line.b = number(0, l.n - 1, line.a);
                    line.chance = number(0, 16, -1);
                    List<String> left = new ArrayList<>(List.of("one", "days"));
                    while (peek().kind != ';' && peek().kind != '.') {
                        Token o = word(left.toArray(new String[0]));
                        left.remove(o.text);
                        if (o.text.equals("one")) line.one = true;
                        else line.days = number(1, 9, -1);
                    }
                    l.lines.add(line);
                    break;
                }
                case "keep": {
                    Token p = peek();
                    int place = number(0, l.n - 1, -1);
                    for (Keep k : l.keeps) if (k.place == place) throw new Refused(p.place, 2);
                    l.keeps.add(new Keep(place, number(0, 16, -1)));
                    break;
                }
                case "cause": {
                    if (l.causes.size() == 3) throw new Refused(w.place, 3);
                    Cause c = new Cause(number(0, 16, -1), new ArrayList<>(), new ArrayList<>());
                    do {
                        if (word("line", "place").text.equals("line")) c.lines.add(number(0, l.lines.size() - 1, -1));
                        else c.places.add(number(0, l.n - 1, -1));
                    } while (peek().kind != ';' && peek().kind != '.');
                    l.causes.add(c);
                    break;
                }
                default: {
                    if (through) throw new Refused(w.place, 2);
                    through = true;
                    l.what = word("one", "all", "some", "days", "two").text;
                    if (l.what.equals("some")) l.amount = number(1, l.n, -1);
                    if (l.what.equals("days")) l.amount = number(1, 99, -1);
                    if (!l.what.equals("all")) l.a = number(0, l.n - 1, -1);
                    if (!l.what.equals("all") && !l.what.equals("some")) l.b = number(0, l.n - 1, l.a);
                }
            }
        }
        return l;
    }

    int land() {
        String text = tape.toString();
        tape.setLength(0);
        try {
            land = parse(text);
        } catch (Refused e) {
            return -2 - e.fault;
        }
        mendings = new ArrayList<>();
        letters = new ArrayList<>();
        mendedSet = -1;
        mendedCoins = -1;
        return land.m();
    }

    // ---- answers ----

    boolean isThing(int t) { return t >= 0 && t < land.m(); }

    boolean isPair(int a, int b) { return a >= 0 && b >= 0 && a < land.n && b < land.n && a != b; }

    int line(int k, int what) {
        if (k < 0 || k >= land.lines.size()) return -1;
        Line l = land.lines.get(k);
        int named = 0;
        for (int c = 0; c < land.causes.size(); c++) if (land.causes.get(c).lines.contains(k)) named += 1 << c;
        int[] all = {l.a, l.b, l.chance, l.one ? 0 : 1, l.days, named};
        return what < 0 || what > 5 ? -1 : all[what];
    }

    int place(int p, int what) {
        if (p < 0 || p >= land.n) return -1;
        int[] all = {16, -1, 0};
        for (int k = 0; k < land.keeps.size(); k++) {
            if (land.keeps.get(k).place == p) {
                all[0] = land.keeps.get(k).chance;
                all[1] = land.lines.size() + k;
            }
        }
        for (int c = 0; c < land.causes.size(); c++) if (land.causes.get(c).places.contains(p)) all[2] += 1 << c;
        return what < 0 || what > 2 ? -1 : all[what];
    }

    int so(int set) {
        if (set < 0 || set >= 1L << land.m()) return -1;
        return land.through(set) ? 1 : 0;
    }

    long chance(int what) {
        return what == 0 ? land.chance() : what == 1 ? pow16(land.m()) : -1;
    }

    long sure(int thing, boolean holds) {
        if (!isThing(thing)) return -1;
        long sum = 0;
        for (long s = 0; s < 1L << land.m(); s++) {
            if (((s >> thing & 1) != 0) == holds && land.through(s)) sum = Math.addExact(sum, land.odds(s, thing));
        }
        return sum;
    }

    long matters(int thing, int what) {
        if (!isThing(thing) || what < 0 || what > 2) return -1;
        if (what == 0) return sure(thing, true) - sure(thing, false);
        if (what == 2) return land.chance(thing);
        int n = 0;
        for (long s = 0; s < 1L << land.m(); s++) {
            if ((s >> thing & 1) != 0 && land.through(s) && !land.through(s - (1L << thing))) n++;
        }
        return n;
    }

    int most() {
        int best = -1;
        for (int t = land.m() - 1; t >= 0; t--) if (best < 0 || matters(t, 0) >= matters(best, 0)) best = t;
        return best;
    }

    int useless() {
        int set = 0;
        for (int t = 0; t < land.m(); t++) if (matters(t, 1) == 0) set += 1 << t;
        return set;
    }

    record Way(int set, BigInteger num, int size) { }

    List<Way> leastSets(boolean cuts) {
        List<Way> out = new ArrayList<>();
        int full = (1 << land.m()) - 1;
        for (int s = 0; s <= full; s++) {
            if (cuts ? land.through(full - s) : !land.through(s)) continue;
            boolean least = true;
            BigInteger p = BigInteger.ONE;
            for (int t = 0; t < land.m(); t++) {
                if ((s >> t & 1) == 0) continue;
                int less = s - (1 << t);
                if (cuts ? !land.through(full - less) : land.through(less)) least = false;
                p = p.multiply(BigInteger.valueOf(cuts ? 16 - land.chance(t) : land.chance(t)));
            }
            if (least) out.add(new Way(s, p, Integer.bitCount(s)));
        }
        // p / 16^size of one against the other's
        out.sort((x, y) -> {
            int c = y.num.multiply(BigInteger.valueOf(16).pow(x.size)).compareTo(x.num.multiply(BigInteger.valueOf(16).pow(y.size)));
            return c != 0 ? c : Integer.compare(x.set, y.set);
        });
        return out;
    }

    int ways(boolean cuts) { return leastSets(cuts).size(); }

    int way(boolean cuts, int k) {
        List<Way> all = leastSets(cuts);
        return k < 0 || k >= 60 || k >= all.size() ? -1 : all.get(k).set;
    }

    long ends(int n, int what) {
        if (n < 0 || n > 60 || what < 0 || what > 1) return -1;
        List<Way> all = leastSets(what == 1);
        all = all.subList(0, Math.min(n, all.size()));
        long sum = 0;
        for (long s = 0; s < 1L << land.m(); s++) {
            boolean some = false;
            for (Way w : all) some |= what == 0 ? (w.set & s) == w.set : (w.set & s) == 0;
            if (what == 0 ? some : !some) sum = Math.addExact(sum, land.odds(s, -1));
        }
        return sum;
    }

    int row(int k) {
        int n = 0;
        int above = ((1 << land.m()) - 1) >> land.lines.size() << land.lines.size();
        for (int s = 0; s < 1 << land.lines.size(); s++) if (Integer.bitCount(s) == k && land.through(s | above)) n++;
        return n;
    }

    int mending(int line, int coins, int to) {
        if (mendings.size() == 9 || line < 0 || line >= land.lines.size() || coins < 1 || coins > 999) return -1;
        if (to > 16 || to <= land.lines.get(line).chance) return -1;
        mendings.add(new int[] {line, coins, to});
        return mendings.size() - 1;
    }

    long mend(int coins) {
        if (coins < 0 || coins > 99999) return -1;
        long best = -1;
        for (int set = 0; set < 1 << mendings.size(); set++) {
            Land after = land.copy();
            int cost = 0;
            for (int i = 0; i < mendings.size(); i++) {
                if ((set >> i & 1) == 0) continue;
                int[] m = mendings.get(i);
                cost += m[1];
                Line l = after.lines.get(m[0]);
                l.chance = Math.max(l.chance, m[2]);
            }
            if (cost > coins) continue;
            long c = after.chance();
            if (c > best || c == best && cost < mendedCoins) {
                best = c;
                mendedSet = set;
                mendedCoins = cost;
            }
        }
        return best;
    }

    int mended(int what) { return what == 0 ? mendedSet : what == 1 ? mendedCoins : -1; }

    long add(int chance, int what) {
        if (chance < 0 || chance > 16 || what < 0 || what > 2 || land.m() > 10 || land.lines.size() >= 12) return -1;
        long[] best = {-1, 0, 0};
        for (int a = 0; a < land.n; a++) {
            for (int b = a + 1; b < land.n; b++) {
                Land wide = land.copy();
                Line l = new Line();
                l.a = a; l.b = b; l.chance = chance;
                wide.lines.add(l);
                long c = wide.chance();
                if (c > best[0]) best = new long[] {c, a, b};
            }
        }
        return best[what];
    }

    long judged(int set) {
        Land after = land.copy();
        for (int i = 0; i < after.lines.size(); i++) if ((set >> i & 1) == 0) after.lines.get(i).chance = 0;
        return after.chance();
    }

    long judge(int set) {
        return set < 0 || set >= 1 << land.lines.size() ? -1 : judged(set);
    }

    boolean sixteenths(long chance, int n) {
        return BigInteger.valueOf(chance).multiply(BigInteger.valueOf(16))
                .compareTo(BigInteger.valueOf(n).multiply(BigInteger.valueOf(16).pow(land.m()))) >= 0;
    }

    int plan(int n) {
        if (n < 0 || n > 16) return -1;
        int best = -2;
        int bestLength = 0;
        long bestChance = 0;
        for (int set = 0; set < 1 << land.lines.size(); set++) {
            long c = judged(set);
            int length = 0;
            for (int i = 0; i < land.lines.size(); i++) if ((set >> i & 1) != 0) length += land.lines.get(i).days;
            if (!sixteenths(c, n)) continue;
            if (best == -2 || length < bestLength || length == bestLength && c > bestChance) {
                best = set;
                bestLength = length;
                bestChance = c;
            }
        }
        return best;
    }

    long without(int cause) {
        if (cause < 0 || cause >= land.causes.size()) return -1;
        Land after = land.copy();
        after.causes.remove(cause);
        return after.chance();
    }

    int letter(int a, int b, boolean came) {
        if (letters.size() == 6 || !isPair(a, b)) return -1;
        letters.add(new int[] {a, b, came ? 1 : 0});
        return letters.size() - 1;
    }

    long thought(int thing, int part) {
        if (!isThing(thing) || part < 0 || part > 1) return -1;
        long sum = 0;
        for (long s = 0; s < 1L << land.m(); s++) {
            if ((part == 1 || (s >> thing & 1) != 0) && land.agrees(s, letters)) sum = Math.addExact(sum, land.odds(s, -1));
        }
        return sum;
    }

    int look() {
        int best = -1;
        long least = 0;
        for (int t = 0; t < land.m(); t++) {
            long hold = thought(t, 0);
            long all = thought(t, 1);
            if (all == 0) return -1;
            long difference = Math.abs(hold - (all - hold));
            if (best < 0 || difference < least) {
                best = t;
                least = difference;
            }
        }
        return best;
    }

    long within(int a, int b, int d) {
        if (!isPair(a, b) || d < 0 || d > 99) return -1;
        long sum = 0;
        for (long s = 0; s < 1L << land.m(); s++) {
            if (land.stands(a, s) && land.stands(b, s) && land.daysMemo(a, b, land.openMask(s)) <= d) sum += land.odds(s, -1);
        }
        return sum;
    }

    int soon(int a, int b, int n) {
        if (!isPair(a, b) || n < 0 || n > 16) return -1;
        for (int d = 1; d < 100; d++) if (sixteenths(within(a, b, d), n)) return d;
        return -2;
    }

    int draw(int seed, int n) {
        if (seed < 0 || n < 1 || n > 1000) return -1;
        BigInteger x = BigInteger.valueOf(seed);
        int found = 0;
        for (int i = 0; i < n; i++) {
            int set = 0;
            for (int t = 0; t < land.m(); t++) {
                x = x.multiply(BigInteger.valueOf(1103515245)).add(BigInteger.valueOf(12345)).mod(BigInteger.valueOf(2147483648L));
                if (x.divide(BigInteger.valueOf(65536)).mod(BigInteger.valueOf(16)).intValue() < land.chance(t)) set |= 1 << t;
            }
            if (land.through(set)) found++;
        }
        return found;
    }

    /** Takes the steps in any order, to see that it does not matter. */
    int joined(int a, int b) {
        if (!isPair(a, b)) return -1;
        List<int[]> edges = new ArrayList<>();
        for (Line l : land.lines) edges.add(new int[] {l.a, l.b});
        while (true) {
            List<Runnable> steps = new ArrayList<>();
            for (int[] e : edges) if (e[0] == e[1]) steps.add(() -> edges.remove(e));
            for (int[] e : edges) {
                for (int[] f : edges) {
                    if (e != f && (e[0] == f[0] && e[1] == f[1] || e[0] == f[1] && e[1] == f[0])) steps.add(() -> edges.remove(e));
                }
            }
            for (int p = 0; p < land.n; p++) {
                if (p == a || p == b) continue;
                List<int[]> at = new ArrayList<>();
                boolean loop = false;
                for (int[] e : edges) {
                    if (e[0] == p || e[1] == p) at.add(e);
                    loop |= e[0] == p && e[1] == p;
                }
                if (loop) continue;
                int q = p;
                if (at.size() == 1) steps.add(() -> edges.remove(at.get(0)));
                if (at.size() == 2) {
                    steps.add(() -> {
                        int[] e = at.get(0);
                        int[] f = at.get(1);
                        edges.remove(e);
                        edges.remove(f);
                        edges.add(new int[] {e[0] == q ? e[1] : e[0], f[0] == q ? f[1] : f[0]});
                    });
                }
            }
            if (steps.isEmpty()) return edges.size();
            steps.get(order.nextInt(steps.size())).run();
        }
    }

    Land apart() {
        Land after = land.copy();
        after.causes.clear();
        for (Cause c : land.causes) {
            for (int i : c.lines.stream().distinct().toList()) after.causes.add(new Cause(c.chance, List.of(i), List.of()));
            for (int p : c.places.stream().distinct().toList()) after.causes.add(new Cause(c.chance, List.of(), List.of(p)));
        }
        return after;
    }

    long alone(int what) {
        Land after = apart();
        if (what < 0 || what > 1 || after.m() > 15) return -1;
        return what == 0 ? after.chance() : pow16(after.m());
    }

    long alike(int c) {
        if (c < 0 || c > 16) return -1;
        BigInteger sum = BigInteger.ZERO;
        int l = land.lines.size();
        for (int k = 0; k <= l; k++) {
            sum = sum.add(BigInteger.valueOf(row(k)).multiply(BigInteger.valueOf(c).pow(k)).multiply(BigInteger.valueOf(16 - c).pow(l - k)));
        }
        return sum.longValueExact();
    }

    int even() {
        for (int k = 1; k <= land.lines.size() - 1; k++) if ((long) row(k) * row(k) < (long) row(k - 1) * row(k + 1)) return 0;
        return 1;
    }

    /** By the matrix-tree theorem. */
    int trees() {
        int n = land.n - 1;
        BigInteger[][] m = new BigInteger[n][n];
        for (BigInteger[] r : m) Arrays.fill(r, BigInteger.ZERO);
        for (Line l : land.lines) {
            int a = l.a - 1;
            int b = l.b - 1;
            if (a >= 0) m[a][a] = m[a][a].add(BigInteger.ONE);
            if (b >= 0) m[b][b] = m[b][b].add(BigInteger.ONE);
            if (a >= 0 && b >= 0) {
                m[a][b] = m[a][b].subtract(BigInteger.ONE);
                m[b][a] = m[b][a].subtract(BigInteger.ONE);
            }
        }
        BigInteger last = BigInteger.ONE;
        for (int k = 0; k < n; k++) {
            if (m[k][k].signum() == 0) return 0; // a Laplacian's minor is positive semidefinite
            for (int i = k + 1; i < n; i++) {
                for (int j = k + 1; j < n; j++) {
                    m[i][j] = m[i][j].multiply(m[k][k]).subtract(m[i][k].multiply(m[k][j])).divide(last);
                }
            }
            last = m[k][k];
        }
        return m[n - 1][n - 1].intValueExact();
    }

    int looksFrom(int seen, int hold, Map<Integer, Integer> memo) {
        Integer known = memo.get(seen << 10 | hold);
        if (known != null) return known;
        boolean yes = false;
        boolean no = false;
        int full = (1 << land.m()) - 1;
        for (int s = 0; s <= full; s++) {
            if ((s & seen) != hold) continue;
            if (land.through(s)) yes = true;
            else no = true;
        }
        int best = 99;
        if (!yes || !no) best = 0;
        for (int t = 0; t < land.m() && best > 0; t++) {
            int bit = 1 << t;
            if ((seen & bit) == 0) {
                best = Math.min(best, 1 + Math.max(looksFrom(seen | bit, hold, memo), looksFrom(seen | bit, hold | bit, memo)));
            }
        }
        memo.put(seen << 10 | hold, best);
        return best;
    }

    int looks(int what) {
        if (what < 0 || what > 1 || land.m() > 9) return -1;
        Map<Integer, Integer> memo = new HashMap<>();
        int all = looksFrom(0, 0, memo);
        if (what == 0) return all;
        for (int t = 0; t < land.m() && all > 0; t++) {
            if (1 + Math.max(looksFrom(1 << t, 0, memo), looksFrom(1 << t, 1 << t, memo)) == all) return t;
        }
        return -1;
    }

    long mean(int a, int b, int part) {
        if (!isPair(a, b) || part < 0 || part > 1) return -1;
        if (part == 1) return within(a, b, 99);
        BigInteger sum = BigInteger.ZERO;
        for (int d = 1; d <= 99; d++) {
            sum = sum.add(BigInteger.valueOf(within(a, b, d)).subtract(BigInteger.valueOf(within(a, b, d - 1))).multiply(BigInteger.valueOf(d)));
        }
        return sum.longValue();
    }

    long differ(int a, int b, int which) {
        if (!isThing(a) || !isThing(b) || a == b || which < 0 || which > 3) return -1;
        long sum = 0;
        for (long s = 0; s < 1L << land.m(); s++) {
            boolean ha = (s >> a & 1) != 0;
            boolean hb = (s >> b & 1) != 0;
            int kind = ha && hb ? 0 : ha ? 1 : hb ? 2 : 3;
            if (kind == which && land.through(s)) sum += land.odds(s, -1);
        }
        return sum;
    }

    int image(int k) {
        if (k < 0 || k > 3) return -1;
        images[k] = new Object[] {land, new ArrayList<>(mendings), new ArrayList<>(letters)};
        return land.m();
    }

    @SuppressWarnings("unchecked")
    int restore(int k) {
        if (k < 0 || k > 3 || images[k] == null) return -1;
        land = (Land) images[k][0];
        mendings = new ArrayList<>((List<int[]>) images[k][1]);
        letters = new ArrayList<>((List<int[]>) images[k][2]);
        mendedSet = -1;
        mendedCoins = -1;
        return land.m();
    }

    int count(int what) {
        int[] all = {land.n, land.lines.size(), land.keeps.size(), land.causes.size(), mendings.size(), letters.size(),
            List.of("one", "all", "some", "days", "two").indexOf(land.what), tape.length()};
        return what < 0 || what > 7 ? -1 : all[what];
    }
}
