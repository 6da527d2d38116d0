/** What the tests by hand have in common: texts told to an object, and answers compared with those that are due. */
class Checks {
    static final int NONE = LetterThrough.NONE;
    static final int LOW = Integer.MIN_VALUE;
    static final int HIGH = Integer.MAX_VALUE;
    /** 0 to 2 by 1 or straight: the CHANCE is 2176 of 4096. */
    static final String TRIANGLE = "places 3;line 0 1 8;line 1 2 12;line 0 2 4 days 2;through one 0 2";
    /** A LINE, a KEEPER and a CAUSE, of which each is needed: the CHANCE is 1536 of 4096. */
    static final String KEPT = "places 2;line 0 1 16 one;keep 1 8;cause 12 line 0 place 1;through one 0 1";
    /** Fifteen THINGS that HOLD for sure. */
    static final String FULL = repeat("places 2", ";line 0 1 16", 12) + ";keep 0 16;keep 1 16;cause 16 line 0";
    static final String ALWAYS = "places 2;line 0 1 8;through some 1 0";
    static final String NEVER = "places 3;line 0 1 8;through one 0 2";

    /** LANDS that are as unlike as can be. */
    static final String[] LANDS = {
        TRIANGLE, KEPT, FULL, ALWAYS, NEVER, "places 2", "places 4", "places 2;line 0 1 9;through one 1 0",
        "places 4;line 0 1 8;line 1 2 3 one;line 2 3 9 days 4;line 3 0 16;cause 9 line 0;cause 3 place 2;cause 15 line 1 line 2;through two 0 3",
        chain(10, "15 days 9") + ";keep 4 9;keep 9 3", "places 6;line 0 5 7 days 3;line 1 5 9;line 0 1 3;through days 4 5 0",
        "places 7;line 0 1 9;line 0 1 4;line 1 2 9;line 1 2 4;line 2 3 9;line 2 3 4;line 3 4 9;line 3 4 4;line 4 5 9;line 4 5 4"
            + ";line 5 6 9;line 5 6 4;through one 0 6"};

    static String about = "";
    static int passed;
    static int failed;

    static void is(String what, long got, long want) {
        if (got == want) {
            passed++;
        } else {
            failed++;
            System.out.println(about + ": " + what + " answered " + got + ", due is " + want);
        }
    }

    static void is(String what, boolean so) {
        is(what, so ? 1 : 0, 1);
    }

    static void none(String what, long got) {
        is(what, got, NONE);
    }

    /** The five numbers that bear the twenty bytes of a text from a place on (0 behind its end). */
    static int[] pack(String text, int from) {
        int[] numbers = new int[5];
        for (int i = 0; i < 20; i++) {
            int c = from + i < text.length() ? text.charAt(from + i) & 255 : 0;
            numbers[i / 4] = numbers[i / 4] << 8 | c;
        }
        return numbers;
    }

    static void feedAll(LetterThrough x, String text) {
        int ahead = x.count(7);
        for (int i = 0; i < text.length(); i += 20) {
            int[] n = pack(text, i);
            x.feed(n[0], n[1], n[2], n[3], n[4]);
        }
        x.end(ahead + text.length());
    }

    static int tell(LetterThrough x, String text) {
        feedAll(x, text);
        return x.land();
    }

    static LetterThrough on(String text) {
        LetterThrough x = new LetterThrough();
        int m = tell(x, text);
        if (m < 0) {
            is("[" + text + "] is a land and", m, 0);
        }
        return x;
    }

    static int fault(int place, int kind) {
        return -2 - (1 + 8 * place + kind);
    }

    /** What an object answers to some hundred calls: two that are in the same state must answer the same. */
    static String answers(LetterThrough x) {
        StringBuilder b = new StringBuilder();
        int last = x.count(0) - 1;
        int things = x.count(1) + x.count(2) + x.count(3);
        int lines = x.count(1);
        for (int i = 0; i < 7; i++) {
            b.append(x.count(i)).append(' ').append(x.line(0, i)).append(' ').append(x.line(lines - 1, i)).append(' ');
            b.append(x.place(0, i)).append(' ').append(x.place(last, i)).append(' ').append(x.row(i)).append(' ');
        }
        for (int i = 0; i < 3; i++) {
            b.append(x.chance(i)).append(' ').append(x.matters(0, i)).append(' ').append(x.matters(things - 1, i)).append(' ');
            b.append(x.way(false, i)).append(' ').append(x.way(true, i)).append(' ');
            b.append(x.ends(i, 0)).append(' ').append(x.ends(i, 1)).append(' ').append(x.add(8, i)).append(' ');
            b.append(x.mend(4 + 4 * i)).append(' ').append(x.mended(0)).append(' ').append(x.mended(1)).append(' ');
            b.append(x.plan(1 + 5 * i)).append(' ').append(x.judge((1 << lines) - 1 - i)).append(' ').append(x.without(i)).append(' ');
            b.append(x.within(0, last, 1 + 4 * i)).append(' ').append(x.within(last, 0, 1 + 4 * i)).append(' ');
            b.append(x.thought(0, i)).append(' ').append(x.thought(things - 1, i)).append(' ');
            b.append(x.alone(i)).append(' ').append(x.looks(i)).append(' ').append(x.mean(0, last, i)).append(' ');
        }
        b.append(x.sure(0, true)).append(' ').append(x.sure(0, false)).append(' ').append(x.most()).append(' ');
        b.append(x.useless()).append(' ').append(x.ways(false)).append(' ').append(x.ways(true)).append(' ');
        b.append(x.ends(60, 0)).append(' ').append(x.ends(60, 1)).append(' ').append(x.look()).append(' ');
        b.append(x.soon(0, 1, 5)).append(' ').append(x.draw(5, 30)).append(' ').append(x.joined(0, 1)).append(' ');
        b.append(x.joined(0, last)).append(' ').append(x.alike(3)).append(' ').append(x.even()).append(' ').append(x.trees()).append(' ');
        return b.append(x.differ(0, 1, 0)).append(' ').append(x.differ(0, 1, 3)).toString();
    }

    static void same(String what, String got, String want) {
        if (!got.equals(want)) {
            System.out.println(got + "\n" + want);
        }
        is(what, got.equals(want));
    }

    /** LINES one behind the other, from the first PLACE to the last one, each with what is told of it behind its PLACES. */
    static String chain(int places, String each) {
        StringBuilder b = new StringBuilder("places " + places);
        for (int p = 0; p < places - 1; p++) {
            b.append(";line ").append(p).append(' ').append(p + 1).append(' ').append(each);
        }
        return b.toString();
    }

    static String repeat(String head, String part, int times) {
        return head + part.repeat(times);
    }
}
