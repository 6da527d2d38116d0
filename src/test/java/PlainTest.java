import java.util.Random;

/** Random calls on LetterThrough and on Plain: all answers must be the same. */
public final class PlainTest {
    private final Random random;
    private final LetterThrough x = new LetterThrough();
    private final Plain y = new Plain();
    private final StringBuilder log = new StringBuilder();
    static long passed;
    static long failed;
    static final long[] calls = new long[40];

    PlainTest(long seed) {
        random = new Random(seed);
    }

    int upTo(int n) {
        return random.nextInt(n + 1);
    }

    /** Mostly from low to high, now and then just beyond. */
    int around(int low, int high) {
        if (random.nextInt(12) == 0) return random.nextBoolean() ? low - 1 : high + 1;
        if (random.nextInt(60) == 0) return random.nextInt();
        return high < low ? low : low + random.nextInt(high - low + 1);
    }

    void same(String call, long got, long want) {
        if (got == want) {
            passed++;
        } else {
            failed++;
            if (failed < 20) System.out.println(log + "\n  " + call + ": " + got + ", due is " + want);
        }
    }

    void tell(String text) {
        log.append("\n[").append(text).append("]");
        x.end(0);
        y.end(0);
        for (int i = 0; i < text.length(); i += 20) {
            int[] n = Checks.pack(text, i);
            same("feed", x.feed(n[0], n[1], n[2], n[3], n[4]), y.feed(n));
        }
        same("end", x.end(text.length()), y.end(text.length()));
        same("land", x.land(), y.land());
        for (int what = -1; what < 9; what++) same("count " + what, x.count(what), y.count(what));
    }

    String blank() {
        return random.nextInt(6) == 0 ? "  " : " ";
    }

    String chanceText() {
        int kind = random.nextInt(8);
        return kind == 0 ? "0" : kind == 1 ? "16" : kind == 2 ? "08" : "" + upTo(16);
    }

    /** A land that is mostly right. */
    String landText(int most) {
        int n = 2 + random.nextInt(random.nextInt(4) == 0 ? 9 : 4);
        StringBuilder b = new StringBuilder("places" + blank() + n);
        int lines = Math.min(most, random.nextInt(13));
        int told = 0;
        int things = 0;
        boolean[] kept = new boolean[n];
        String through = through(n);
        int throughAt = random.nextInt(lines + 1);
        for (int step = 0; step <= lines + 4; step++) {
            if (step == throughAt) b.append(through);
            if (step < lines && things < most) {
                int a = upTo(n - 1);
                int c = (a + 1 + upTo(n - 2)) % n;
                b.append(";line ").append(a).append(blank()).append(c).append(' ').append(chanceText());
                boolean daysFirst = random.nextBoolean();
                if (random.nextInt(4) == 0 && daysFirst) b.append(" days ").append(1 + upTo(8));
                if (random.nextInt(5) == 0) b.append(" one");
                if (random.nextInt(4) == 0 && !daysFirst) b.append(" days ").append(1 + upTo(8));
                told++;
                things++;
            }
            if (random.nextInt(5) == 0 && things < most) {
                int p = upTo(n - 1);
                if (!kept[p]) {
                    kept[p] = true;
                    things++;
                    b.append("; keep ").append(p).append(' ').append(chanceText());
                }
            }
            if (random.nextInt(9) == 0 && things < most) {
                things++;
                b.append(";cause ").append(chanceText());
                for (int i = 0; i <= upTo(2); i++) {
                    if (told > 0 && random.nextBoolean()) b.append(" line ").append(upTo(told - 1));
                    else b.append(" place ").append(upTo(n - 1));
                }
            }
        }
        return b.toString();
    }

    String through(int n) {
        int a = upTo(n - 1);
        int b = (a + 1 + upTo(n - 2)) % n;
        switch (random.nextInt(6)) {
            case 0: return ";through one " + a + " " + b;
            case 1: return ";through all";
            case 2: return ";through some " + (1 + upTo(n - 1)) + " " + a;
            case 3: return ";through days " + (1 + upTo(random.nextBoolean() ? 8 : 98)) + " " + a + " " + b;
            case 4: return ";through two " + a + " " + b;
            default: return "";
        }
    }

    static final String[] BITS = {"line", "keep", "cause", "through", "places", "place", "one", "days", "all", "some", "two",
        "x", ";", ";", " ", "", "0", "1", "2", "16", "17", "99", "100", "007", "A", "\0", "\u00ff", "\n", "-", "lines", "line 0 1 8",
        "keep 1 3", "cause 2 place 0", "through all"};

    /** A change somewhere in a text: a part of it dropped, put twice, or another one put there. */
    String spoil(String text) {
        for (int i = 0; i <= upTo(1); i++) {
            int at = upTo(text.length());
            int to = Math.min(text.length(), at + upTo(3));
            String part = BITS[upTo(BITS.length - 1)];
            switch (random.nextInt(5)) {
                case 0: text = text.substring(0, at); break;
                case 1: text = text.substring(0, at) + part + text.substring(to); break;
                case 2: text = text.substring(0, at) + part + text.substring(at); break;
                case 3: text = text.substring(0, at) + text.substring(to); break;
                default: {
                    String[] clauses = text.split(";", -1);
                    int c = upTo(clauses.length - 1);
                    clauses[c] = clauses[c] + ";" + clauses[upTo(clauses.length - 1)];
                    text = String.join(";", clauses);
                }
            }
        }
        return text.length() > 400 ? text.substring(0, 400) : text;
    }

    void call() {
        int m = y.land.m();
        int lines = y.land.lines.size();
        int n = y.land.n;
        int which = random.nextInt(36);
        calls[which]++;
        boolean yes = random.nextBoolean();
        int t = around(0, m - 1);
        int u = around(0, m - 1);
        int a = around(0, n - 1);
        int b = around(0, n - 1);
        int k = around(0, 3);
        int c = around(0, 16);
        String args = " t" + t + " u" + u + " a" + a + " b" + b + " k" + k + " c" + c + " " + yes;
        switch (which) {
            case 0: { int l = around(0, lines - 1); int w = around(0, 5); same("line " + l + " " + w, x.line(l, w), y.line(l, w)); break; }
            case 1: same("place" + args, x.place(a, k), y.place(a, k)); break;
            case 2: { int s = around(0, (1 << m) - 1); same("so " + s, x.so(s), y.so(s)); break; }
            case 3: { int w = around(0, 1); same("chance " + w, x.chance(w), y.chance(w)); break; }
            case 4: same("sure" + args, x.sure(t, yes), y.sure(t, yes)); break;
            case 5: { int w = around(0, 2); same("matters" + args + " " + w, x.matters(t, w), y.matters(t, w)); break; }
            case 6: same("most", x.most(), y.most()); break;
            case 7: same("useless", x.useless(), y.useless()); break;
            case 8: same("ways" + args, x.ways(yes), y.ways(yes)); break;
            case 9: { int w = around(0, yes ? 59 : y.ways(true)); same("way " + w + args, x.way(yes, w), y.way(yes, w)); break; }
            case 10: { int w = around(0, 60); int o = around(0, 1); same("ends " + w + " " + o, x.ends(w, o), y.ends(w, o)); break; }
            case 11: { int w = around(0, lines); same("row " + w, x.row(w), y.row(w)); break; }
            case 12: case 13: {
                int l = around(0, lines - 1);
                int coins = random.nextInt(3) == 0 ? 5 : around(1, 999);
                log.append(" mending(" + l + "," + coins + "," + c + ")");
                same("mending " + l + args, x.mending(l, coins, c), y.mending(l, coins, c));
                break;
            }
            case 14: {
                if (m > 9 && y.mendings.size() > 5) break;
                int coins = random.nextInt(4) == 0 ? around(0, 99999) : upTo(2000);
                log.append(" mend(" + coins + ")");
                same("mend " + coins, x.mend(coins), y.mend(coins));
                break;
            }
            case 15: { int w = around(0, 1); same("mended " + w, x.mended(w), y.mended(w)); break; }
            case 16: { int w = around(0, 2); same("add " + c + " " + w, x.add(c, w), y.add(c, w)); break; }
            case 17: if (m <= 9 || lines < 4) same("plan " + c, x.plan(c), y.plan(c)); break;
            case 18: { int w = around(0, (1 << lines) - 1); same("judge " + w, x.judge(w), y.judge(w)); break; }
            case 19: same("without " + k, x.without(k), y.without(k)); break;
            case 20: log.append(" letter(" + a + "," + b + "," + yes + ")"); same("letter" + args, x.letter(a, b, yes), y.letter(a, b, yes)); break;
            case 21: { int w = around(0, 1); same("thought" + args + " " + w, x.thought(t, w), y.thought(t, w)); break; }
            case 22: same("look", x.look(), y.look()); break;
            case 23: { int d = random.nextBoolean() ? around(0, 99) : upTo(12); same("within " + d + args, x.within(a, b, d), y.within(a, b, d)); break; }
            case 24: if (m <= 9) same("soon" + args, x.soon(a, b, c), y.soon(a, b, c)); break;
            case 25: { int s = yes ? random.nextInt() : upTo(9); int w = around(1, 50); same("draw " + s + " " + w, x.draw(s, w), y.draw(s, w)); break; }
            case 26: same("joined" + args, x.joined(a, b), y.joined(a, b)); break;
            case 27: { int w = around(0, 1); same("alone " + w, x.alone(w), y.alone(w)); break; }
            case 28: same("alike " + c, x.alike(c), y.alike(c)); break;
            case 29: same("even", x.even(), y.even()); break;
            case 30: same("trees", x.trees(), y.trees()); break;
            case 31: { int w = around(0, 1); same("looks " + w, x.looks(w), y.looks(w)); break; }
            case 32: if (m <= 8) { int w = around(0, 1); same("mean" + args + w, x.mean(a, b, w), y.mean(a, b, w)); } break;
            case 33: same("differ" + args, x.differ(t, u, k), y.differ(t, u, k)); break;
            case 34: log.append(" image(" + k + ")"); same("image " + k, x.image(k), y.image(k)); break;
            default: log.append(" restore(" + k + ")"); same("restore " + k, x.restore(k), y.restore(k)); break;
        }
    }

    void run(int lands, int most, int each) {
        for (int i = 0; i < lands; i++) {
            String text = landText(most);
            if (text.length() > 400) continue;
            tell(text);
            for (int j = 0; j < each; j++) call();
            if (random.nextInt(3) == 0) {
                tell(spoil(text));
                for (int j = 0; j < 5; j++) call();
            }
        }
    }

    void runTexts() {
        for (int i = 0; i < 12; i++) {
            String text = landText(15);
            tell(spoil(text.length() > 400 ? text.substring(0, 400) : text));
        }
    }

    /** How much, in hundredths of what .ci/run asks for; and another seed to begin with. */
    public static void main(String[] args) {
        int scale = args.length > 0 ? Integer.parseInt(args[0]) : 100;
        long base = args.length > 1 ? Long.parseLong(args[1]) : 0;
        for (int seed = 0; seed < 15 * scale; seed++) new PlainTest(base + seed).run(4, 2 + seed % 8, 40);
        for (int seed = 0; seed < 30 * scale; seed++) new PlainTest(base + 100000 + seed).runTexts();
        for (int seed = 0; seed < 6 * scale / 100; seed++) new PlainTest(base + 200000 + seed).run(3, 15, 30);
        System.out.println(passed + " passed, " + failed + " failed");
        if (failed != 0) System.exit(1);
    }
}
