/** What the tests by hand have in common: texts told to an object, and answers compared with those that are due. */
class Checks {
    static final int NONE = LetterThrough.NONE;
    static final int LOW = Integer.MIN_VALUE;
    static final int HIGH = Integer.MAX_VALUE;
    /** 0 to 2 by 1 or straight: the CHANCE is 2176 of 4096. */
    static final String TRIANGLE = "places 3;line 0 1 8;line 1 2 12;line 0 2 4 days 2;through one 0 2";
    /** A LINE, a KEEPER and a CAUSE, of which each is needed: the CHANCE is 1536 of 4096. */
    static final String KEPT = "places 2;line 0 1 16 one;keep 1 8;cause 12 line 0 place 1;through one 0 1";
    /** Fifteen THINGS that HOLD for sure. */
    static final String FULL = repeat("places 2", ";line 0 1 16", 12) + ";keep 0 16;keep 1 16;cause 16 line 0";
    static final String ALWAYS = "places 2;line 0 1 8;through some 1 0";
    static final String NEVER = "places 3;line 0 1 8;through one 0 2";

    static String about = "";
    static int passed;
    static int failed;

    static void is(String what, long got, long want) {
        if (got == want) {
            passed++;
        } else {
            failed++;
            System.out.println(about + ": " + what + " answered " + got + ", due is " + want);
        }
    }

    static void is(String what, boolean so) {
        is(what, so ? 1 : 0, 1);
    }

    static void none(String what, long got) {
        is(what, got, NONE);
    }

    /** The five numbers that bear the twenty bytes of a text from a place on (0 behind its end). */
    static int[] pack(String text, int from) {
        int[] numbers = new int[5];
        for (int i = 0; i < 20; i++) {
            int c = from + i < text.length() ? text.charAt(from + i) & 255 : 0;
            numbers[i / 4] = numbers[i / 4] << 8 | c;
        }
        return numbers;
    }

    static void feedAll(LetterThrough x, String text) {
        int ahead = x.count(7);
        for (int i = 0; i < text.length(); i += 20) {
            int[] n = pack(text, i);
            x.feed(n[0], n[1], n[2], n[3], n[4]);
        }
        x.end(ahead + text.length());
    }

    static int tell(LetterThrough x, String text) {
        feedAll(x, text);
        return x.land();
    }

    static LetterThrough on(String text) {
        LetterThrough x = new LetterThrough();
        int m = tell(x, text);
        if (m < 0) {
            is("[" + text + "] is a land and", m, 0);
        }
        return x;
    }

    static int fault(int place, int kind) {
        return -2 - (1 + 8 * place + kind);
    }

    /** LINES one behind the other, from the first PLACE to the last one, each with what is told of it behind its PLACES. */
    static String chain(int places, String each) {
        StringBuilder b = new StringBuilder("places " + places);
        for (int p = 0; p < places - 1; p++) {
            b.append(";line ").append(p).append(' ').append(p + 1).append(' ').append(each);
        }
        return b.toString();
    }

    static String repeat(String head, String part, int times) {
        return head + part.repeat(times);
    }
}
