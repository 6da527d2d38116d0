/** Boundary cases of promises 7 to 16: what is THROUGH, CHANCES, what MATTERS, WAYS and CUTS, the ROW. */
final class ChanceEdges extends Checks {
    /** Fifteen THINGS of which the KEEPER of 0, which is THING 12, decides alone. */
    private static final String STEADY = repeat("places 2", ";line 0 1 8", 12) + ";keep 0 8;keep 1 8;cause 8 line 0;through some 1 0";
    /** Six pairs of LINES one behind the other: 64 WAYS, 6 CUTS. */
    private static final String PAIRS = pairs();
    /** Six ways of two LINES side by side: 6 WAYS, 64 CUTS. */
    private static final String BUNDLE = bundle();
    private static final long ALL12 = 1L << 48;

    private static String pairs() {
        StringBuilder b = new StringBuilder("places 7");
        for (int p = 0; p < 6; p++) {
            String here = ";line " + p + " " + (p + 1);
            b.append(here).append(" 9").append(here).append(" 4");
        }
        return b + ";through one 0 6";
    }

    private static String bundle() {
        StringBuilder b = new StringBuilder("places 8");
        for (int p = 2; p < 8; p++) {
            b.append(";line 0 ").append(p).append(" 9");
            b.append(";line ").append(p).append(" 1 4");
        }
        return b + ";through one 0 1";
    }

    private static long power(long base, int exponent) {
        long product = 1;
        for (int i = 0; i < exponent; i++) {
            product *= base;
        }
        return product;
    }

    /** A sign for each SET, from the empty one on. */
    private static void sets(String text, String wants) {
        LetterThrough x = on(text);
        for (int s = 0; s < wants.length(); s++) {
            is("so(" + s + ") of [" + text + "]", x.so(s), wants.charAt(s) - '0');
        }
        none("so(" + wants.length() + ") of [" + text + "]", x.so(wants.length()));
    }

    // ---- 7: so ----

    @Edge(promise = 7, says = "NONE for others (bits beyond M)")
    static void bitsBeyond() {
        LetterThrough none = new LetterThrough();
        is("the only SET of no THINGS", none.so(0), 0);
        none("a bit beyond 0", none.so(1));
        LetterThrough x = on(TRIANGLE);
        is("all 3", x.so(7), 1);
        none("a bit beyond 3", x.so(8));
        none("with those below", x.so(15));
        none("bit 30", x.so(1 << 30));
        none("the highest", x.so(HIGH));
        none("bit 31", x.so(LOW));
        none("all bits", x.so(-1));
        none("bit 31 and more", x.so(LOW + 7));
        LetterThrough full = on(FULL);
        is("all 15", full.so(32767), 1);
        none("bit 15", full.so(32768));
        none("16 bits", full.so(65535));
    }

    @Edge(promise = 7, says = "In a SET of THINGS (bits) those HOLD that are in it: a CAUSE that HOLDS stays away.")
    static void emptyAndFullSet() {
        is("of none that HOLDS", on(FULL).so(0), 0);
        is("of all that HOLD", on(FULL).so(32767), 1);
        is("without the CAUSE LINE 0 falls, not the others", on(FULL).so(16383), 1);
        is("LINE 0 alone, and the CAUSE came", on(FULL).so(12289), 0);
        is("LINE 0 alone, and the CAUSE stays away", on(FULL).so(28673), 1);
    }

    @Edge(promise = 7, says = "A PLACE STANDS, if its KEEPER HOLDS (or it has none) and all CAUSES that name it")
    static void placeStands() {
        sets("places 2;through some 1 0", "1");
        sets("places 2;keep 1 8;through some 1 0", "11");
        sets("places 2;keep 0 8;through some 1 0", "01");
        sets("places 2;keep 0 8;cause 8 place 0;cause 8 place 1 place 0;through some 1 0", "00000001");
        sets("places 2;keep 0 8;cause 8 place 1;through some 1 0", "0101");
    }

    @Edge(promise = 7, says = "a LINE is OPEN, if it HOLDS and all CAUSES that name it, and both its PLACES STAND")
    static void lineIsOpen() {
        sets("places 2;line 0 1 8;cause 8 line 0;cause 8 line 0;through some 2 0", "00000001");
        sets("places 2;line 0 1 8;keep 0 8;keep 1 8;through some 2 0", "00000001");
        sets("places 3;line 0 1 8;keep 2 8;cause 8 place 2;through some 2 0", "01010101");
    }

    @Edge(promise = 7, says = "one: A and B STAND, and OPEN LINES lead from A to B.")
    static void throughOne() {
        sets("places 2;line 0 1 8 one;through one 0 1", "01");
        sets("places 2;line 0 1 8 one;through one 1 0", "00");
        sets("places 2;line 0 1 8;through one 1 0", "01");
        sets("places 2;line 0 1 8;keep 0 1;keep 1 1;through one 0 1", "00000001");
        sets("places 3;line 0 1 8;line 1 2 8;keep 1 1;through one 0 2", "00000001");
        sets("places 3;line 0 1 8;keep 2 1;through one 0 1", "0101");
        LetterThrough chain = on(chain(10, "8 one") + ";through one 0 9");
        is("by nine LINES one behind the other", chain.so(511), 1);
        is("without the last", chain.so(255), 0);
        is("without the first", chain.so(510), 0);
        StringBuilder backwards = new StringBuilder("places 10");
        for (int p = 8; p >= 0; p--) {
            backwards.append(";line ").append(p).append(' ').append(p + 1).append(" 8 one");
        }
        is("the last one told first", on(backwards + ";through one 0 9").so(511), 1);
    }

    @Edge(promise = 7, says = "all: all PLACES STAND, and each leads to each.")
    static void throughAll() {
        sets("places 2;line 0 1 8 one", "00");
        sets("places 2;line 1 0 8 one", "00");
        sets("places 2;line 1 0 8", "01");
        sets("places 3;line 2 1 8;line 1 0 8", "0001");
        sets("places 2;line 0 1 8 one;line 1 0 8 one", "0001");
        sets("places 3;line 0 1 8", "00");
        sets("places 3;line 0 1 8 one;line 1 2 8 one;line 2 0 8 one", "00000001");
        sets("places 2;line 0 1 8;keep 1 8", "0001");
        sets("places 2;line 0 1 8;cause 8 place 0", "0001");
    }

    @Edge(promise = 7, says = "some: A STANDS, and K PLACES at least are led to from A (it itself is one)")
    static void throughSome() {
        sets("places 2;line 0 1 8;through some 1 0", "11");
        sets("places 2;line 0 1 8;through some 2 0", "01");
        sets("places 2;line 0 1 8 one;through some 2 1", "00");
        sets("places 2;line 0 1 8;keep 0 8;through some 1 0", "0011");
        sets("places 3;line 0 1 8;line 0 2 8;through some 2 0", "0111");
        sets("places 3;line 0 1 8;line 1 2 8;through some 3 0", "0001");
        sets("places 3;line 0 1 8;keep 2 8;through some 2 0", "0101");
    }

    @Edge(promise = 7, says = "days: as one, by LINES whose DAYS together are not above D.")
    static void throughDays() {
        sets("places 3;line 0 1 8 days 2;line 1 2 8 days 3;through days 5 0 2", "0001");
        sets("places 3;line 0 1 8 days 2;line 1 2 8 days 3;through days 4 0 2", "0000");
        sets("places 2;line 0 1 8;through days 1 0 1", "01");
        sets("places 2;line 0 1 8 days 9;through days 9 0 1", "01");
        sets("places 2;line 0 1 8 days 9;through days 8 0 1", "00");
        sets("places 2;line 0 1 8;keep 1 1;through days 99 0 1", "0001");
        sets("places 2;line 0 1 8 one;through days 99 1 0", "00");
        is("81 DAYS within 81", on(chain(10, "8 days 9") + ";through days 81 9 0").so(511), 1);
        is("81 DAYS within 80", on(chain(10, "8 days 9") + ";through days 80 9 0").so(511), 0);
        is("against the order told", on("places 4;line 2 3 8;line 1 2 8;line 0 1 8;through days 3 0 3").so(7), 1);
        is("a longer way round changes nothing", on("places 3;line 0 1 8 days 2;line 0 2 8 days 4;line 1 2 8 days 3;through days 2 0 1").so(7), 1);
    }

    @Edge(promise = 7, says = "two: as one, by two ways that have no LINE in common.")
    static void throughTwo() {
        sets("places 2;line 0 1 8;through two 0 1", "00");
        sets("places 2;line 0 1 8;line 1 0 8;through two 0 1", "0001");
        sets("places 2;line 0 1 8;line 1 0 8 one;through two 0 1", "0000");
        sets("places 3;line 0 1 8;line 0 1 8;line 1 2 8;line 1 2 8;through two 0 2", "0000000000000001");
        sets("places 3;line 0 1 8;line 0 1 8;line 1 2 8;through two 0 2", "00000000");
        sets("places 2;line 0 1 8;line 0 1 8;keep 1 8;through two 0 1", "00000001");
    }

    // ---- 8: chance ----

    @Edge(promise = 8, says = "CHANCE that it is THROUGH (what 0), 16^M (1)")
    static void chanceOfNoThings() {
        LetterThrough x = new LetterThrough();
        is("never", x.chance(0), 0);
        is("over 1", x.chance(1), 1);
        is("always", on("places 2;through some 1 0").chance(0), 1);
    }

    @Edge(promise = 8, says = "of all SETS with which it is, together, over 16^M")
    static void chanceOfFifteenThings() {
        LetterThrough x = on(FULL);
        is("over 16^15", x.chance(1), 1L << 60);
        is("sure", x.chance(0), 1L << 60);
        is("half", on(STEADY).chance(0), 1L << 59);
        is("never", on(STEADY.replace("keep 0 8", "keep 0 0")).chance(0), 0);
    }

    @Edge(promise = 8, says = "the product of the CHANCES of THINGS in it and of 16 less those of the others")
    static void chanceOfNeverAndSure() {
        is("0", on("places 2;line 0 1 0;through one 0 1").chance(0), 0);
        is("1", on("places 2;line 0 1 1;through one 0 1").chance(0), 1);
        is("15", on("places 2;line 0 1 15;through one 0 1").chance(0), 15);
        is("16", on("places 2;line 0 1 16;through one 0 1").chance(0), 16);
        is("what is not needed counts, too", on("places 2;line 0 1 5;line 0 1 0;keep 0 16;through one 0 1").chance(0), 5 * 256);
    }

    @Edge(promise = 8, says = "NONE for others")
    static void noSuchWhatOfChance() {
        for (int what : new int[] {LOW, -1, 2, HIGH}) {
            none("chance " + what, on(TRIANGLE).chance(what));
        }
    }

    // ---- 9: sure ----

    @Edge(promise = 9, says = "likewise of all others, over 16^(M-1)")
    static void sureOfOneAndOfFifteen() {
        LetterThrough x = on("places 2;line 0 1 7;through one 0 1");
        is("it HOLDS, over 1", x.sure(0, true), 1);
        is("it has fallen, over 1", x.sure(0, false), 0);
        LetterThrough full = on(FULL);
        is("one of many LINES HOLDS", full.sure(0, true), 1L << 56);
        is("one of many LINES has fallen", full.sure(11, false), 1L << 56);
        is("a KEEPER HOLDS", full.sure(13, true), 1L << 56);
        is("a KEEPER has fallen", full.sure(13, false), 0);
        is("the CAUSE came", full.sure(14, false), 1L << 56);
    }

    @Edge(promise = 9, says = "With a THING taken as sure (it HOLDS; or it has fallen)")
    static void sureWhateverItsChance() {
        LetterThrough never = on("places 2;line 0 1 0;line 0 1 3;through one 0 1");
        is("of CHANCE 0, HOLDS", never.sure(0, true), 16);
        is("of CHANCE 0, has fallen", never.sure(0, false), 3);
        LetterThrough always = on("places 2;line 0 1 16;line 0 1 3;through one 0 1");
        is("of CHANCE 16, HOLDS", always.sure(0, true), 16);
        is("of CHANCE 16, has fallen", always.sure(0, false), 3);
    }

    @Edge(promise = 9, says = "NONE without it")
    static void sureOfNoThing() {
        for (int thing : new int[] {LOW, -1, 3, 31, 32, HIGH}) {
            none("holds " + thing, on(TRIANGLE).sure(thing, true));
            none("has fallen " + thing, on(TRIANGLE).sure(thing, false));
        }
        none("of no THINGS", new LetterThrough().sure(0, true));
        none("15", on(FULL).sure(15, true));
        is("14", on(FULL).sure(14, true), 1L << 56);
    }

    // ---- 10: matters ----

    @Edge(promise = 10, says = "Of a THING what 0: MATTERS")
    static void mattersNotAtAllAndAlone() {
        is("one THING", on("places 2;line 0 1 7;through one 0 1").matters(0, 0), 1);
        is("alone of 15", on(STEADY).matters(12, 0), 1L << 56);
        is("the first not at all", on(STEADY).matters(0, 0), 0);
        is("the last not at all", on(STEADY).matters(14, 0), 0);
        is("beside one that HOLDS for sure", on("places 2;line 0 1 7;line 0 1 16;through one 0 1").matters(0, 0), 0);
        is("of CHANCE 0", on("places 2;line 0 1 0;line 0 1 5;through one 0 1").matters(0, 0), 11);
    }

    @Edge(promise = 10, says = "1: in how many SETS of all others it DECIDES")
    static void decidesInNoneAndInAll() {
        is("one THING, in the empty SET", on("places 2;line 0 1 7;through one 0 1").matters(0, 1), 1);
        is("in all 2^14", on(STEADY).matters(12, 1), 16384);
        is("in none", on(STEADY).matters(13, 1), 0);
        is("in none, if it is never THROUGH", on(NEVER).matters(0, 1), 0);
        is("be the CHANCES as they may", on("places 2;line 0 1 7;line 0 1 16;through one 0 1").matters(0, 1), 1);
    }

    @Edge(promise = 10, says = "2: its CHANCE")
    static void chanceOfFirstAndLast() {
        LetterThrough x = on("places 2;line 0 1 0;keep 1 16;keep 0 7;cause 5 line 0;cause 0 place 0");
        int[] wants = {0, 16, 7, 5, 0};
        for (int t = 0; t < 5; t++) {
            is("of THING " + t, x.matters(t, 2), wants[t]);
        }
    }

    @Edge(promise = 10, says = "NONE without it")
    static void mattersOfNoThing() {
        for (int what = 0; what < 3; what++) {
            for (int thing : new int[] {LOW, -1, 3, HIGH}) {
                none("matters " + thing + " " + what, on(TRIANGLE).matters(thing, what));
            }
            none("of no THINGS", new LetterThrough().matters(0, what));
            none("15", on(FULL).matters(15, what));
        }
    }

    @Edge(promise = 10, says = "or for another what")
    static void noSuchWhatOfMatters() {
        for (int what : new int[] {LOW, -1, 3, HIGH}) {
            none("matters 0 " + what, on(TRIANGLE).matters(0, what));
        }
    }

    // ---- 11: most ----

    @Edge(promise = 11, says = "of several the least")
    static void mostOfSeveral() {
        is("two alike", on("places 2;line 0 1 8;line 0 1 8;through one 0 1").most(), 0);
        is("two alike behind a lesser one", on("places 2;line 0 1 7;line 0 1 8;line 0 1 8;through one 0 1").most(), 1);
        is("none at all", on(NEVER).most(), 0);
        is("all fifteen not at all", on(STEADY.replace("keep 0 8", "keep 1 9").replace("keep 1 8;", "cause 4 place 1;")).most(), 0);
        is("the last alone", on("places 2;line 0 1 8;keep 1 8;cause 8 place 0;through some 1 0").most(), 2);
    }

    @Edge(promise = 11, says = "NONE without any")
    static void mostOfNone() {
        none("of a new object", new LetterThrough().most());
        none("through by itself", on("places 2;through some 1 0").most());
        is("of one", on("places 2;line 0 1 0;through one 0 1").most(), 0);
    }

    // ---- 12: useless ----

    @Edge(promise = 12, says = "USELESS THINGS, as bits")
    static void uselessNoneToAll() {
        is("of no THINGS", new LetterThrough().useless(), 0);
        is("none", on("places 2;line 0 1 8;through one 0 1").useless(), 0);
        is("the one", on(NEVER).useless(), 1);
        is("all fifteen but one", on(STEADY).useless(), 32767 - (1 << 12));
        is("all fifteen", on(repeat("places 3", ";line 0 1 8", 12) + ";keep 0 8;keep 2 8;cause 8 line 0;through one 0 2").useless(), 32767);
    }

    @Edge(promise = 12, says = "USELESS: it DECIDES in none.")
    static void uselessWhateverTheChances() {
        is("of CHANCE 0 and 16", on("places 2;line 0 1 0;line 0 1 16;through one 0 1").useless(), 0);
        is("it MATTERS not, but DECIDES", on("places 2;line 0 1 7;line 0 1 16;through one 0 1").useless(), 0);
        is("always THROUGH", on(ALWAYS).useless(), 1);
    }

    // ---- 13: ways ----

    @Edge(promise = 13, says = "How many WAYS there are; with CUTS how many of these.")
    static void noWayAndTheEmptyWay() {
        is("never: no WAY", on(NEVER).ways(false), 0);
        is("never: the empty CUT", on(NEVER).ways(true), 1);
        is("always: the empty WAY", on(ALWAYS).ways(false), 1);
        is("always: no CUT", on(ALWAYS).ways(true), 0);
        is("of no THINGS: no WAY", new LetterThrough().ways(false), 0);
        is("of no THINGS: the empty CUT", new LetterThrough().ways(true), 1);
    }

    @Edge(promise = 13, says = "how many there are is told in all")
    static void moreWaysThanAreTold() {
        is("64 WAYS", on(PAIRS).ways(false), 64);
        is("6 CUTS", on(PAIRS).ways(true), 6);
        is("6 WAYS", on(BUNDLE).ways(false), 6);
        is("64 CUTS", on(BUNDLE).ways(true), 64);
    }

    @Edge(promise = 13, says = "least SETS with which it is THROUGH (with none of which one THING less it is)")
    static void leastSets() {
        is("LINES side by side", on("places 2;line 0 1 8;line 0 1 8;through one 0 1").ways(false), 2);
        is("with a USELESS one", on("places 3;line 0 1 8;line 0 2 8;through one 0 1").ways(false), 1);
        is("of THINGS of CHANCE 0, too", on("places 2;line 0 1 0;line 0 1 0;through one 0 1").ways(false), 2);
        is("all fifteen of FULL", on(FULL).ways(false), 12);
        is("its CUTS: a KEEPER, or all LINES, one of them by its CAUSE", on(FULL).ways(true), 4);
    }

    @Edge(promise = 13, says = "CUTS: least sets of THINGS by the falling of which (all others HOLD) it isn't.")
    static void leastCuts() {
        is("one behind the other", on("places 3;line 0 1 8;line 1 2 8;through one 0 2").ways(true), 2);
        is("side by side", on("places 2;line 0 1 8;line 0 1 8;through one 0 1").ways(true), 1);
        is("with a USELESS one", on("places 3;line 0 1 8;line 0 2 8;through one 0 1").ways(true), 1);
        is("of THINGS of CHANCE 16, too", on("places 2;line 0 1 16;keep 0 16;through one 0 1").ways(true), 2);
        is("all others HOLD, be their CHANCE 0", on("places 2;line 0 1 0;keep 0 0;keep 1 0;through one 0 1").ways(true), 3);
    }

    // ---- 14: way ----

    @Edge(promise = 14, says = "NONE without it")
    static void noSuchWay() {
        LetterThrough x = on(TRIANGLE);
        for (int k : new int[] {LOW, -1, 2, 59, 60, HIGH}) {
            none("WAY " + k, x.way(false, k));
            none("CUT " + k, x.way(true, k));
        }
        is("the last WAY", x.way(false, 1), 4);
        is("the last CUT", x.way(true, 1), 6);
        none("never: no WAY", on(NEVER).way(false, 0));
        none("always: no CUT", on(ALWAYS).way(true, 0));
    }

    @Edge(promise = 14, says = "WAY k (or CUT k) of those that are told, as bits")
    static void emptyAndFullWay() {
        is("always: the empty WAY", on(ALWAYS).way(false, 0), 0);
        none("no other one", on(ALWAYS).way(false, 1));
        is("never: the empty CUT", on(NEVER).way(true, 0), 0);
        none("no other one", on(NEVER).way(true, 1));
        String all = chain(10, "8") + ";keep 0 8;keep 1 8;keep 2 8;cause 8 place 3;cause 8 place 4;cause 8 place 5;through one 0 9";
        is("all fifteen are one WAY", on(all).way(false, 0), 32767);
        is("and fifteen CUTS of one", on(all).way(true, 14), 1 << 14);
        none("no sixteenth", on(all).way(true, 15));
    }

    @Edge(promise = 14, says = "60 of each are told")
    static void sixtyAreTold() {
        LetterThrough x = on(PAIRS);
        is("WAY 59", x.way(false, 59), 0b101001101010);
        none("WAY 60 of 64", x.way(false, 60));
        none("WAY 63 of 64", x.way(false, 63));
        LetterThrough y = on(BUNDLE);
        is("CUT 59", y.way(true, 59), 0b010101100101);
        none("CUT 60 of 64", y.way(true, 60));
        none("CUT 63 of 64", y.way(true, 63));
        LetterThrough alike = on(PAIRS.replace(" 9;", " 8;").replace(" 4;", " 8;"));
        is("WAY 0 of 64 alike", alike.way(false, 0), 0b010101010101);
        is("WAY 58 of 64 alike", alike.way(false, 58), 0b101010011001);
        is("WAY 59 of 64 alike", alike.way(false, 59), 0b101010011010);
        none("WAY 60 of 64 alike", alike.way(false, 60));
    }

    @Edge(promise = 14, says = "those with the greatest CHANCE first (a WAY: that all in it HOLD;")
    static void likeliestWayFirst() {
        is("of two THINGS before one of less", on("places 3;line 0 1 16;line 1 2 15;line 0 2 14;through one 0 2").way(false, 0), 3);
        is("one THING before two of less", on("places 3;line 0 1 14;line 1 2 15;line 0 2 14;through one 0 2").way(false, 0), 4);
        is("10 by 9 before 15 by 5", on("places 4;line 0 1 15;line 1 2 5;line 0 3 10;line 3 2 9;through one 0 2").way(false, 0), 12);
        is("of PAIRS", on(PAIRS).way(false, 0), 0b010101010101);
        is("then", on(PAIRS).way(false, 1), 0b010101010110);
        is("then the greatest of one other", on(PAIRS).way(false, 6), 0b100101010101);
        is("never ones last", on("places 2;line 0 1 0;line 0 1 1;through one 0 1").way(false, 1), 1);
    }

    @Edge(promise = 14, says = "a CUT: that all in it have fallen, others as they may)")
    static void likeliestCutFirst() {
        is("the frail one", on("places 3;line 0 1 9;line 1 2 8;through one 0 2").way(true, 0), 2);
        is("two frail ones before a steady one", on("places 3;line 0 1 2;line 0 1 3;line 1 2 9;through one 0 2").way(true, 0), 3);
        is("a steady one before two steadier", on("places 3;line 0 1 8;line 0 1 8;line 1 2 9;through one 0 2").way(true, 0), 4);
        is("10 by 9 before 15 by 5", on("places 3;line 0 1 1;line 0 1 11;line 1 2 6;line 1 2 7;through one 0 2").way(true, 0), 12);
        is("what can't be comes last", on("places 3;line 0 1 16;line 0 1 0;line 1 2 15;line 1 2 15;through one 0 2").way(true, 0), 12);
        is("of BUNDLE", on(BUNDLE).way(true, 0), 0b101010101010);
        is("then", on(BUNDLE).way(true, 1), 0b011010101010);
    }

    @Edge(promise = 14, says = "of several the least number (as bits)")
    static void leastNumberOfAsLikely() {
        is("two THINGS as likely as one", on("places 3;line 0 1 16;line 1 2 8;line 0 2 8;through one 0 2").way(false, 0), 3);
        is("one THING as likely as two", on("places 3;line 0 2 8;line 0 1 8;line 1 2 16;through one 0 2").way(false, 0), 1);
        is("CUTS: two THINGS as likely as one", on("places 3;line 0 1 0;line 0 1 8;line 1 2 8;through one 0 2").way(true, 0), 3);
        LetterThrough never = on("places 2;line 0 1 0;line 0 1 0;line 0 1 0;through one 0 1");
        for (int k = 0; k < 3; k++) {
            is("WAY " + k + " of CHANCE 0", never.way(false, k), 1 << k);
        }
        LetterThrough sure = on("places 4;line 0 1 16;line 1 2 16;line 2 3 16;through one 0 3");
        for (int k = 0; k < 3; k++) {
            is("CUT " + k + " of CHANCE 0", sure.way(true, k), 1 << k);
        }
    }

    // ---- 15: ends ----

    @Edge(promise = 15, says = "ENDS by the first n (0 to 60) what 0: below, 1: above")
    static void endsByNone() {
        is("below, by no WAYS", on(TRIANGLE).ends(0, 0), 0);
        is("above, by no CUTS", on(TRIANGLE).ends(0, 1), 4096);
        is("above, of no THINGS", new LetterThrough().ends(0, 1), 1);
        is("above, of 15", on(FULL).ends(0, 1), 1L << 60);
        is("below, by the empty WAY", on(ALWAYS).ends(1, 0), 16);
        is("below, not yet", on(ALWAYS).ends(0, 0), 0);
        is("above, by the empty CUT", on(NEVER).ends(1, 1), 0);
        is("above, not yet", on(NEVER).ends(0, 1), 16);
    }

    @Edge(promise = 15, says = "ENDS by the first n of each that are told")
    static void endsByMoreThanAreTold() {
        LetterThrough x = on(TRIANGLE);
        for (int n : new int[] {2, 3, 59, 60}) {
            is("below, by " + n, x.ends(n, 0), 2176);
            is("above, by " + n, x.ends(n, 1), 2176);
        }
        is("no WAY", on(NEVER).ends(60, 0), 0);
        is("no CUT", on(ALWAYS).ends(60, 1), 16);
        is("of 15, below", on(FULL).ends(60, 0), 1L << 60);
        is("of 15, above", on(FULL).ends(60, 1), 1L << 60);
    }

    @Edge(promise = 15, says = "the CHANCE that some of these WAYS HOLDS; and that of none of these CUTS all have fallen (over 16^M)")
    static void endsBySixtyOfMore() {
        // Four WAYS are not told: all weak LINES, and one strong one among the first three pairs.
        // A pair has its weak LINE alone by 28 of 256, its strong one alone by 108, both by 36.
        long untold = power(28, 5) * (28 + 3 * (108 + 36));
        LetterThrough x = on(PAIRS);
        is("all WAYS", x.chance(0), power(172, 6));
        is("60 of 64 WAYS", x.ends(60, 0), power(172, 6) - untold);
        is("59 of them are less", x.ends(59, 0) < x.ends(60, 0));
        is("6 CUTS are all", x.ends(6, 1), power(172, 6));
        is("5 are not", x.ends(5, 1) > x.ends(6, 1));
        // Likewise: of a way its strong LINE alone has fallen by 28 of 256, its weak one by 108, both by 84.
        long uncut = power(28, 5) * (28 + 3 * (108 + 84));
        LetterThrough y = on(BUNDLE);
        is("all CUTS", y.chance(0), ALL12 - power(220, 6));
        is("60 of 64 CUTS", y.ends(60, 1), ALL12 - power(220, 6) + uncut);
        is("59 of them are more", y.ends(59, 1) > y.ends(60, 1));
        is("6 WAYS are all", y.ends(6, 0), ALL12 - power(220, 6));
    }

    @Edge(promise = 15, says = "NONE without these")
    static void noSuchEnds() {
        LetterThrough x = on(TRIANGLE);
        for (int n : new int[] {LOW, -1, 61, HIGH}) {
            none("below, by " + n, x.ends(n, 0));
            none("above, by " + n, x.ends(n, 1));
        }
        for (int what : new int[] {LOW, -1, 2, HIGH}) {
            none("by 1, " + what, x.ends(1, what));
            none("by 0, " + what, x.ends(0, what));
        }
    }

    // ---- 16: row ----

    @Edge(promise = 16, says = "ROW of k; 0 without so many LINES")
    static void rowWithoutSoMany() {
        LetterThrough x = on(ALWAYS);
        is("0", x.row(0), 1);
        is("1", x.row(1), 1);
        for (int k : new int[] {LOW, -1, 2, 12, 13, 31, 32, 33, HIGH}) {
            is("row " + k, x.row(k), 0);
        }
        is("of no LINES", on("places 2;through some 1 0").row(0), 1);
        is("one of no LINES", on("places 2;through some 1 0").row(1), 0);
        is("not THROUGH", new LetterThrough().row(0), 0);
    }

    @Edge(promise = 16, says = "how many sets of k LINES there are with which it is THROUGH (all other THINGS HOLD)")
    static void rowOfTwelve() {
        LetterThrough x = on(STEADY.replace("keep 0 8", "keep 0 0"));
        int[] wants = {1, 12, 66, 220, 495, 792, 924, 792, 495, 220, 66, 12, 1};
        for (int k = 0; k <= 12; k++) {
            is("row " + k, x.row(k), wants[k]);
        }
        LetterThrough y = on("places 2;line 0 1 0;keep 0 0;keep 1 0;cause 0 line 0 place 1;through one 0 1");
        is("be the CHANCES as they may", y.row(1), 1);
        is("none without the LINE", y.row(0), 0);
    }
}
