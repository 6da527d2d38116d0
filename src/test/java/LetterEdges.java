/** Boundary cases of promises 24 to 30: LETTERS and what they tell, DAYS, DRAWS, and what is left of JOINED. */
final class LetterEdges extends Checks {
    /** Nine LINES of nine DAYS, one behind the other. */
    private static final String FAR = chain(10, "16 days 9");
    /** Six PLACES, each with a LINE to all others but one. */
    private static final String OCTAHEDRON = octahedron();

    private static String octahedron() {
        StringBuilder b = new StringBuilder("places 6");
        for (int p = 0; p < 6; p++) {
            for (int q = p + 1; q < 6; q++) {
                if (p + q != 5) {
                    b.append(";line ").append(p).append(' ').append(q).append(" 8");
                }
            }
        }
        return b.toString();
    }

    // ---- 24: letter ----

    @Edge(promise = 24, says = "A LETTER: its number; NONE: there are 6")
    static void sixLetters() {
        LetterThrough x = on(TRIANGLE);
        for (int i = 0; i < 6; i++) {
            is("letter", x.letter(0, 1, true), i);
        }
        is("what they tell", x.thought(0, 1), 2432);
        none("a seventh", x.letter(0, 1, false));
        none("an eighth", x.letter(1, 2, false));
        is("there are 6", x.count(5), 6);
        is("it tells nothing", x.thought(0, 1), 2432);
    }

    @Edge(promise = 24, says = "LETTERS, 6 at most")
    static void sixthLetterCounts() {
        LetterThrough x = on(TRIANGLE);
        for (int i = 0; i < 5; i++) {
            x.letter(0, 2, true);
        }
        is("five", x.thought(0, 1), 2176);
        is("the sixth", x.letter(0, 1, false), 5);
        // 0 to 2 straight, and not by 1 or back: LINE 2 alone HOLDS
        is("it counts", x.thought(0, 1), 8 * 4 * 4);
    }

    @Edge(promise = 24, says = "or something is not as told")
    static void letterOfNoPlaces() {
        LetterThrough x = on(TRIANGLE);
        for (int p : new int[] {LOW, -1, 3, 10, 32, HIGH}) {
            none("from " + p, x.letter(p, 0, true));
            none("to " + p, x.letter(0, p, true));
            none("from and to " + p, x.letter(p, p, false));
        }
        is("none came", x.count(5), 0);
        is("nothing is told", x.thought(0, 1), 4096);
        is("from the last PLACE", x.letter(2, 0, true), 0);
        is("to the last PLACE", x.letter(0, 2, true), 1);
        is("of 10", on("places 10").letter(9, 8, true), 0);
    }

    @Edge(promise = 24, says = "from a PLACE to another one")
    static void letterToAnotherPlace() {
        LetterThrough x = on(TRIANGLE);
        for (int p = 0; p < 3; p++) {
            none("from " + p + " to itself", x.letter(p, p, true));
        }
        is("none came", x.count(5), 0);
    }

    @Edge(promise = 24, says = "that came or did not (came: as THROUGH one of these)")
    static void letterAsThroughOne() {
        LetterThrough there = on("places 2;line 0 1 8 one;keep 1 4;through all");
        there.letter(0, 1, true);
        is("LINE and KEEPER", there.thought(0, 1), 32);
        LetterThrough back = on("places 2;line 0 1 8 one;keep 1 4;through all");
        back.letter(1, 0, false);
        is("never back, so it tells nothing", back.thought(0, 1), 256);
        LetterThrough days = on("places 2;line 0 1 8 days 9;through days 1 0 1");
        days.letter(0, 1, true);
        is("be it THROUGH or not", days.thought(0, 1), 8);
    }

    // ---- 25: thought ----

    @Edge(promise = 25, says = "THOUGHT of a THING part 0: above the line, 1: below it")
    static void thoughtAheadOfLetters() {
        LetterThrough x = on(TRIANGLE);
        is("it HOLDS", x.thought(2, 0), 1024);
        is("of all", x.thought(2, 1), 4096);
        is("15 THINGS, HOLDS", on(FULL).thought(14, 0), 1L << 60);
        is("15 THINGS, of all", on(FULL).thought(14, 1), 1L << 60);
        is("of CHANCE 0", on("places 2;line 0 1 0").thought(0, 0), 0);
        is("of CHANCE 0, of all", on("places 2;line 0 1 0").thought(0, 1), 16);
    }

    @Edge(promise = 25, says = "the CHANCES of SETS that AGREE in which it HOLDS, by those of all that AGREE")
    static void thoughtOfNothingThatAgrees() {
        LetterThrough x = on(TRIANGLE);
        x.letter(0, 1, true);
        x.letter(0, 1, false);
        is("against each other, HOLDS", x.thought(0, 0), 0);
        is("against each other, of all", x.thought(0, 1), 0);
        LetterThrough never = on(NEVER);
        never.letter(2, 0, true);
        is("what can't be", never.thought(0, 1), 0);
        LetterThrough sure = on("places 2;line 0 1 5");
        sure.letter(0, 1, true);
        is("the only one HOLDS", sure.thought(0, 0), 5);
        is("for sure", sure.thought(0, 1), 5);
        LetterThrough fallen = on("places 2;line 0 1 5");
        fallen.letter(1, 0, false);
        is("the only one HOLDS not", fallen.thought(0, 0), 0);
        is("for sure", fallen.thought(0, 1), 11);
    }

    @Edge(promise = 25, says = "NONE without these")
    static void noSuchThought() {
        LetterThrough x = on(TRIANGLE);
        for (int t : new int[] {LOW, -1, 3, 32, HIGH}) {
            none("thought " + t, x.thought(t, 0));
            none("below, " + t, x.thought(t, 1));
        }
        for (int part : new int[] {LOW, -1, 2, HIGH}) {
            none("part " + part, x.thought(0, part));
        }
        none("of no THINGS", new LetterThrough().thought(0, 1));
        none("THING 15", on(FULL).thought(15, 0));
    }

    // ---- 26: look ----

    @Edge(promise = 26, says = "NONE without THINGS")
    static void lookWithoutThings() {
        none("of a new object", new LetterThrough().look());
        none("THROUGH by itself", on("places 2;through some 1 0").look());
        is("of one", on("places 2;keep 0 3").look(), 0);
    }

    @Edge(promise = 26, says = "or if the CHANCES of what AGREES are 0 together")
    static void lookWhereNothingAgrees() {
        LetterThrough x = on(TRIANGLE);
        x.letter(0, 1, true);
        x.letter(0, 1, false);
        none("against each other", x.look());
        LetterThrough never = on("places 2;line 0 1 0");
        never.letter(0, 1, true);
        none("a SET AGREES, but of CHANCE 0", never.look());
        LetterThrough always = on("places 2;line 0 1 16");
        always.letter(0, 1, false);
        none("a SET AGREES, but of CHANCE 0", always.look());
    }

    @Edge(promise = 26, says = "of several the least number")
    static void lookAtLeastOfSeveral() {
        is("alike", on("places 2;line 0 1 5;line 0 1 5").look(), 0);
        is("as far below as above", on("places 2;line 0 1 2;line 0 1 11;line 0 1 5").look(), 1);
        is("all for sure", on(FULL).look(), 0);
        is("the last alone is not sure", on(FULL.replace("cause 16", "cause 15")).look(), 14);
    }

    @Edge(promise = 26, says = "with the least difference of those CHANCES in which it HOLDS and in which it has fallen")
    static void lookAtLeastDifference() {
        is("even", on("places 2;line 0 1 7;line 0 1 8;line 0 1 9").look(), 1);
        is("above", on("places 2;line 0 1 5;line 0 1 10;line 0 1 16").look(), 1);
        LetterThrough x = on(TRIANGLE);
        x.letter(0, 2, false);
        // of 1920: LINE 2 has fallen, LINE 0 HOLDS by 384, LINE 1 by 1152
        is("what a LETTER tells counts", x.look(), 1);
    }

    // ---- 27: within ----

    @Edge(promise = 27, says = "WITHIN d DAYS (0 to 99) from a to b")
    static void withinNoneTo99() {
        LetterThrough x = on(FAR);
        is("0", x.within(0, 9, 0), 0);
        is("80", x.within(0, 9, 80), 0);
        is("81", x.within(0, 9, 81), 1L << 36);
        is("99", x.within(0, 9, 99), 1L << 36);
        is("back", x.within(9, 0, 81), 1L << 36);
        is("0 to a neighbour", on("places 2;line 0 1 16").within(0, 1, 0), 0);
        is("1 to a neighbour", on("places 2;line 0 1 16").within(0, 1, 1), 16);
        is("of no THINGS", new LetterThrough().within(0, 1, 99), 0);
        is("of 15 THINGS", on(FULL).within(1, 0, 1), 1L << 60);
    }

    @Edge(promise = 27, says = "the CHANCE that it is THROUGH as days tells")
    static void withinAsDaysTells() {
        LetterThrough x = on("places 2;line 0 1 8 one;keep 1 4;through some 1 0");
        is("LINE and KEEPER", x.within(0, 1, 1), 32);
        is("not back", x.within(1, 0, 99), 0);
        LetterThrough y = on(TRIANGLE);
        y.letter(0, 1, false);
        is("LETTERS do not count", y.within(0, 1, 1), 2048);
        is("from another PLACE", y.within(2, 1, 1), 3072);
        is("to another PLACE", y.within(2, 0, 1), 0);
        is("back", y.within(0, 2, 2), 2176);
    }

    @Edge(promise = 27, says = "NONE without these (a and b unlike)")
    static void noSuchWithin() {
        LetterThrough x = on(TRIANGLE);
        for (int d : new int[] {LOW, -1, 100, HIGH}) {
            none("within " + d, x.within(0, 2, d));
        }
        for (int p : new int[] {LOW, -1, 3, HIGH}) {
            none("from " + p, x.within(p, 0, 5));
            none("to " + p, x.within(0, p, 5));
        }
        for (int p = 0; p < 3; p++) {
            none("from " + p + " to itself", x.within(p, p, 5));
        }
        none("from 0 to itself in none", x.within(0, 0, 0));
    }

    // ---- 28: soon ----

    @Edge(promise = 28, says = "SOON for n sixteenths (0 to 16)")
    static void soonForNoneToAll() {
        LetterThrough x = on(FAR);
        is("0", x.soon(0, 9, 0), 1);
        is("1", x.soon(0, 9, 1), 81);
        is("16", x.soon(0, 9, 16), 81);
        is("to the next", x.soon(0, 1, 16), 9);
        is("of 15 THINGS", on(FULL).soon(0, 1, 16), 1);
        is("of no THINGS, 0", new LetterThrough().soon(0, 1, 0), 1);
    }

    @Edge(promise = 28, says = "the fewest DAYS (1 to 99) within which that is n sixteenths or more")
    static void soonForJustSoMany() {
        LetterThrough x = on("places 2;line 0 1 8;keep 0 8;line 0 1 8 days 3");
        is("4 of 4", x.soon(0, 1, 4), 1);
        is("5 of 6", x.soon(0, 1, 5), 3);
        is("6 of 6", x.soon(0, 1, 6), 3);
        is("7 of 6", x.soon(0, 1, 7), -2);
        is("14 of 14 and one of 16", on("places 3;line 0 1 15;line 1 2 15").soon(0, 2, 14), 2);
        is("15 of 14 and one of 16", on("places 3;line 0 1 15;line 1 2 15").soon(0, 2, 15), -2);
    }

    @Edge(promise = 28, says = "-2: not in 99")
    static void notSoon() {
        is("never", on("places 2;line 0 1 0").soon(0, 1, 1), -2);
        is("of no THINGS", new LetterThrough().soon(0, 1, 1), -2);
        is("against the way", on("places 2;line 0 1 16 one").soon(1, 0, 1), -2);
        is("16 of 15", on("places 2;line 0 1 15").soon(0, 1, 16), -2);
        is("15 of 15", on("places 2;line 0 1 15").soon(0, 1, 15), 1);
    }

    @Edge(promise = 28, says = "NONE without these")
    static void noSuchSoon() {
        LetterThrough x = on(TRIANGLE);
        for (int n : new int[] {LOW, -2, -1, 17, HIGH}) {
            none("for " + n, x.soon(0, 2, n));
        }
        for (int p : new int[] {LOW, -1, 3, HIGH}) {
            none("from " + p, x.soon(p, 0, 5));
            none("to " + p, x.soon(0, p, 5));
        }
        none("to itself", x.soon(2, 2, 0));
    }

    // ---- 29: draw ----

    @Edge(promise = 29, says = "DRAWS by a seed (0 to 2147483647)")
    static void drawByFirstAndLastSeed() {
        // the first rests are 0, 12, 4 by seed 0, and 9, 9, 6 by the highest
        is("0 is below 1", on("places 2;line 0 1 1").draw(0, 1), 1);
        is("0 is not below 0", on("places 2;line 0 1 0").draw(0, 1), 0);
        is("9 is not below 9", on("places 2;line 0 1 9").draw(HIGH, 1), 0);
        is("9 is below 10", on("places 2;line 0 1 10").draw(HIGH, 1), 1);
        is("one of 9, 9, 6 is below 9", on("places 2;line 0 1 9").draw(HIGH, 3), 1);
        for (int seed : new int[] {LOW, LOW + 1, -1}) {
            none("seed " + seed, on(TRIANGLE).draw(seed, 5));
        }
    }

    @Edge(promise = 29, says = "x becomes x * 1103515245 + 12345, of 2147483648 the rest")
    static void drawGoesRound() {
        // by seed 1 the rests are 6 14 1 11 11 11 2 11 4 6, by the highest 9 9 6 14 9 2 8 15 0 14
        int[] below = {0, 0, 1, 2, 2, 3, 3, 5, 5, 5, 5, 5, 9, 9, 9, 10, 10};
        int[] belowHigh = {0, 1, 1, 2, 2, 2, 2, 3, 3, 4, 7, 7, 7, 7, 7, 9, 10};
        for (int c = 0; c <= 16; c++) {
            LetterThrough x = on("places 2;line 0 1 " + c);
            is("CHANCE " + c + " by seed 1", x.draw(1, 10), below[c]);
            is("CHANCE " + c + " by the highest", x.draw(HIGH, 10), belowHigh[c]);
        }
        is("by seeds that are half of it apart", on("places 2;line 0 1 5").draw(1 << 30, 12), on("places 2;line 0 1 5").draw(0, 12));
    }

    @Edge(promise = 29, says = "How many of n (1 to 1000) are THROUGH.")
    static void drawOneToThousand() {
        LetterThrough x = on("places 2;line 0 1 8");
        is("1", x.draw(1, 1), 1);
        is("1000 by 1", x.draw(1, 1000), 509);
        is("1000 by the highest", x.draw(HIGH, 1000), 497);
        is("1000 sure ones", on("places 2;line 0 1 16").draw(7, 1000), 1000);
        for (int n : new int[] {LOW, -1, 0, 1001, HIGH}) {
            none("draws " + n, x.draw(1, n));
        }
    }

    @Edge(promise = 29, says = "for each draw, THING by THING")
    static void drawOfNoneToFifteen() {
        is("no THINGS, never", new LetterThrough().draw(5, 1000), 0);
        is("no THINGS, always", on("places 2;through some 1 0").draw(5, 1000), 1000);
        is("15 sure THINGS", on(FULL).draw(5, 1000), 1000);
        // 6 14 1 are LINE, KEEPER and CAUSE, then 11 11 11, then 2 11 4
        is("the first draw", on("places 2;line 0 1 7;keep 0 15;cause 2 place 1;through one 0 1").draw(1, 3), 1);
        is("the second, too", on("places 2;line 0 1 12;keep 0 15;cause 12 place 1;through one 0 1").draw(1, 3), 3);
        is("the last of a draw", on("places 2;line 0 1 12;keep 0 15;cause 11 place 1;through one 0 1").draw(1, 3), 2);
    }

    @Edge(promise = 29, says = "it HOLDS, if x / 65536, of 16 the rest, is below its CHANCE")
    static void drawJustBelow() {
        // the first rest is 6 by seed 1; by the highest the eighth is 15 and the ninth 0
        is("6 is not below 6", on("places 2;line 0 1 6").draw(1, 1), 0);
        is("6 is below 7", on("places 2;line 0 1 7").draw(1, 1), 1);
        is("15 is not below 15", on("places 2;line 0 1 15").draw(HIGH, 8) - on("places 2;line 0 1 15").draw(HIGH, 7), 0);
        is("15 is below 16", on("places 2;line 0 1 16").draw(HIGH, 8) - on("places 2;line 0 1 16").draw(HIGH, 7), 1);
        is("0 is below 1", on("places 2;line 0 1 1").draw(HIGH, 9), 1);
        is("0 is not below 0", on("places 2;line 0 1 0").draw(HIGH, 9), 0);
    }

    @Edge(promise = 29, says = "DRAWS; NONE without these")
    static void drawOfNeither() {
        none("neither", on(TRIANGLE).draw(-1, 0));
        none("too many by no seed", on(TRIANGLE).draw(LOW, 1001));
        none("of no THINGS, too", new LetterThrough().draw(-1, 1));
    }

    // ---- 30: joined ----

    @Edge(promise = 30, says = "How many LINES are left, when nothing can be done any more.")
    static void joinedOfNoneAndOfAll() {
        is("no LINES", new LetterThrough().joined(0, 1), 0);
        is("none between them", on(FULL.replace("places 2", "places 4")).joined(2, 3), 0);
        is("twelve that all stay", on(OCTAHEDRON).joined(0, 1), 12);
        is("twelve that all stay", on(OCTAHEDRON).joined(0, 5), 12);
        is("also aside", on(OCTAHEDRON.replace("places 6", "places 10")).joined(8, 9), 12);
    }

    @Edge(promise = 30, says = "of two between the same PLACES one goes")
    static void joinedOfTwo() {
        is("twelve between the same", on(FULL).joined(0, 1), 1);
        is("there and back", on("places 2;line 0 1 8 one;line 1 0 8 one").joined(1, 0), 1);
    }

    @Edge(promise = 30, says = "a PLACE (but these two) with one LINE loses it; with two the two become one")
    static void joinedButTheseTwo() {
        is("these two keep their LINE", on("places 2;line 0 1 8").joined(0, 1), 1);
        is("nine become one", on(FAR).joined(0, 9), 1);
        is("nine are lost, but for one", on(FAR).joined(4, 5), 1);
        is("these two keep their two", on("places 3;line 0 1 8;line 1 2 8;line 2 0 8").joined(0, 1), 1);
        is("a dead end", on("places 3;line 0 2 8").joined(0, 1), 0);
        is("three are kept", on("places 4;line 0 1 8;line 0 2 8;line 0 3 8;line 1 2 8;line 1 3 8;line 2 3 8").joined(0, 1), 6);
        is("dead ends of the first PLACE", on("places 5;line 0 1 8;line 0 2 8;line 0 3 8;line 0 4 8").joined(1, 2), 1);
        is("dead ends of the last PLACE", on("places 5;line 4 1 8;line 4 2 8;line 4 3 8;line 4 0 8").joined(1, 2), 1);
        is("a third that goes makes two of three", on("places 5;line 0 2 8;line 0 3 8;line 2 3 8;line 2 1 8;line 3 1 8;line 2 4 8").joined(0, 1), 5);
    }

    @Edge(promise = 30, says = "a LINE that comes back to its own PLACE goes")
    static void joinedOfRings() {
        is("a ring aside", on("places 5;line 2 3 8;line 3 4 8;line 4 2 8").joined(0, 1), 0);
        is("two between two aside", on("places 4;line 2 3 8;line 2 3 8").joined(0, 1), 0);
        is("a ring that hangs on it", on("places 4;line 0 1 8;line 1 2 8;line 2 3 8;line 3 1 8").joined(0, 1), 1);
        is("a ring that hangs on a dead end", on("places 5;line 0 2 8;line 2 3 8;line 3 4 8;line 4 2 8").joined(0, 1), 0);
    }

    @Edge(promise = 30, says = "LINES as both ways, all OPEN")
    static void joinedWhateverHolds() {
        is("one way, never, and nobody STANDS", on("places 3;line 2 0 0 one;line 2 1 0 one;keep 2 0;cause 0 place 0").joined(0, 1), 1);
    }

    @Edge(promise = 30, says = "NONE without these (a and b unlike)")
    static void noSuchJoined() {
        LetterThrough x = on(TRIANGLE);
        for (int p : new int[] {LOW, -1, 3, HIGH}) {
            none("from " + p, x.joined(p, 0));
            none("to " + p, x.joined(0, p));
        }
        for (int p = 0; p < 3; p++) {
            none("from " + p + " to itself", x.joined(p, p));
        }
    }
}
