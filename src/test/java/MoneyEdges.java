/** Boundary cases of promises 17 to 23: MENDINGS, NEW LINES, PLANS, and a CAUSE that stays away. */
final class MoneyEdges extends Checks {
    /** Nine LINES of 8, one behind the other. */
    private static final String CHAIN = chain(10, "8") + ";through one 0 9";

    private static LetterThrough mendedChain() {
        LetterThrough x = on(CHAIN);
        for (int k = 0; k < 9; k++) {
            x.mending(k, 999, 16);
        }
        return x;
    }

    private static void best(LetterThrough x, int coins, long chance, int set, int spent) {
        is("mend(" + coins + ")", x.mend(coins), chance);
        is("its set", x.mended(0), set);
        is("its coins", x.mended(1), spent);
    }

    // ---- 17: mending ----

    @Edge(promise = 17, says = "A MENDING: its number; NONE: there are 9")
    static void nineMendings() {
        LetterThrough x = on(TRIANGLE);
        for (int i = 0; i < 9; i++) {
            is("mending", x.mending(i % 3, i + 1, 16), i);
        }
        none("a tenth", x.mending(0, 1, 16));
        none("an eleventh", x.mending(0, 1, 16));
        is("there are 9", x.count(4), 9);
        best(x, 6, 4096, 3, 3);
    }

    @Edge(promise = 17, says = "MENDINGS 0 to 8")
    static void ninthMendingCounts() {
        LetterThrough x = on("places 2;line 0 1 0;through one 0 1");
        for (int i = 0; i < 8; i++) {
            x.mending(0, 999, 1);
        }
        is("the ninth", x.mending(0, 1, 16), 8);
        best(x, 1, 16, 256, 1);
    }

    @Edge(promise = 17, says = "or something is not as told")
    static void mendingOfNoLine() {
        LetterThrough x = on(TRIANGLE);
        for (int k : new int[] {LOW, -1, 3, 12, HIGH}) {
            none("of LINE " + k, x.mending(k, 1, 16));
        }
        none("of no LINES", new LetterThrough().mending(0, 1, 16));
        is("the last one", x.mending(2, 1, 16), 0);
        is("none came of those", x.count(4), 1);
        LetterThrough kept = on(KEPT);
        none("a KEEPER is no LINE", kept.mending(1, 1, 16));
        LetterThrough twelve = on(repeat("places 2", ";line 0 1 1", 12));
        is("LINE 11", twelve.mending(11, 1, 2), 0);
        none("LINE 12", twelve.mending(12, 1, 2));
    }

    @Edge(promise = 17, says = "for so many coins (1 to 999)")
    static void coinsOfMending() {
        LetterThrough x = on(TRIANGLE);
        for (int coins : new int[] {LOW, -1, 0, 1000, 65537, HIGH}) {
            none("for " + coins, x.mending(0, coins, 16));
        }
        is("none came", x.count(4), 0);
        is("for 1", x.mending(0, 1, 16), 0);
        is("for 999", x.mending(1, 999, 16), 1);
    }

    @Edge(promise = 17, says = "a LINE's CHANCE becomes C, above what it is")
    static void chanceAboveWhatItIs() {
        LetterThrough x = on("places 2;line 0 1 8;line 0 1 0;line 0 1 15;line 0 1 16");
        for (int to : new int[] {LOW, -1, 0, 7, 8, 17, HIGH}) {
            none("8 to " + to, x.mending(0, 1, to));
        }
        none("0 to 0", x.mending(1, 1, 0));
        none("15 to 15", x.mending(2, 1, 15));
        none("16 to 16", x.mending(3, 1, 16));
        none("16 to 17", x.mending(3, 1, 17));
        is("none came", x.count(4), 0);
        is("8 to 9", x.mending(0, 1, 9), 0);
        is("8 to 16", x.mending(0, 1, 16), 1);
        is("0 to 1", x.mending(1, 1, 1), 2);
        is("15 to 16", x.mending(2, 1, 16), 3);
        is("what it is stays", x.line(0, 2), 8);
        is("so 9 is above it still", x.mending(0, 1, 9), 4);
    }

    // ---- 18: mend ----

    @Edge(promise = 18, says = "BEST for so many coins (0 to 99999): the CHANCE")
    static void bestForNoneAndForAll() {
        best(new LetterThrough(), 0, 0, 0, 0);
        best(on(TRIANGLE), 99999, 2176, 0, 0);
        LetterThrough x = mendedChain();
        best(x, 0, 1L << 27, 0, 0);
        best(x, 99999, 1L << 36, 511, 8991);
    }

    @Edge(promise = 18, says = "NONE without these")
    static void noSuchCoins() {
        LetterThrough x = mendedChain();
        for (int coins : new int[] {LOW, -1, 100000, HIGH}) {
            none("mend(" + coins + ")", x.mend(coins));
        }
        none("and nothing is the latest", x.mended(0));
    }

    @Edge(promise = 18, says = "BEST for so many coins: the greatest CHANCE to be THROUGH")
    static void bestForJustEnough() {
        LetterThrough x = mendedChain();
        best(x, 998, 1L << 27, 0, 0);
        best(x, 999, 1L << 28, 1, 999);
        best(x, 1997, 1L << 28, 1, 999);
        best(x, 8990, 1L << 35, 255, 7992);
        best(x, 8991, 1L << 36, 511, 8991);
    }

    @Edge(promise = 18, says = "of these the least coins")
    static void bestForLeastCoins() {
        LetterThrough x = on("places 2;line 0 1 8;through one 0 1");
        x.mending(0, 7, 12);
        x.mending(0, 5, 12);
        best(x, 99999, 12, 2, 5);
        best(x, 6, 12, 2, 5);
        best(x, 4, 8, 0, 0);
        LetterThrough useless = on("places 3;line 0 1 8;line 1 2 3;through one 0 1");
        useless.mending(1, 1, 16);
        best(useless, 9, 128, 0, 0);
        LetterThrough never = on("places 3;line 0 1 8;through one 0 2");
        never.mending(0, 1, 16);
        best(never, 9, 0, 0, 0);
    }

    @Edge(promise = 18, says = "then the least number (MENDING i is bit i)")
    static void bestOfLeastNumber() {
        LetterThrough x = on("places 2;line 0 1 8;line 0 1 8;through one 0 1");
        x.mending(1, 5, 16);
        x.mending(0, 5, 16);
        best(x, 5, 256, 1, 5);
        LetterThrough y = on("places 2;line 0 1 8;through one 0 1");
        y.mending(0, 2, 9);
        y.mending(0, 4, 16);
        y.mending(0, 4, 16);
        best(y, 9, 16, 2, 4);
        // two of 2 coins are as good as one of 4
        LetterThrough z = on("places 3;line 0 1 8;line 1 2 8;line 0 2 0;through one 0 2");
        z.mending(2, 4, 16);
        z.mending(0, 2, 16);
        z.mending(1, 2, 16);
        best(z, 4, 4096, 1, 4);
    }

    @Edge(promise = 18, says = "(of several that are done of one LINE the greatest)")
    static void severalOfOneLine() {
        LetterThrough x = on("places 2;line 0 1 2;line 0 1 0;through one 0 1");
        x.mending(0, 1, 16);
        x.mending(0, 1, 3);
        best(x, 2, 256, 1, 1);
        LetterThrough y = on("places 2;line 0 1 2;through one 0 1");
        y.mending(0, 1, 3);
        y.mending(0, 2, 9);
        y.mending(0, 4, 8);
        best(y, 1, 3, 1, 1);
        best(y, 99, 9, 2, 2);
    }

    // ---- 19: mended ----

    @Edge(promise = 19, says = "NONE ahead of any")
    static void mendedAheadOfAny() {
        LetterThrough x = on(TRIANGLE);
        none("set", x.mended(0));
        none("coins", x.mended(1));
        x.mending(0, 1, 16);
        none("set", x.mended(0));
        none("of a new object", new LetterThrough().mended(0));
        none("coins of a new object", new LetterThrough().mended(1));
        x.mend(0);
        is("nothing, for nothing", x.mended(0), 0);
        is("nothing, for nothing", x.mended(1), 0);
    }

    @Edge(promise = 19, says = "Of the latest mend() that was not NONE")
    static void mendedOfLatest() {
        LetterThrough x = on("places 2;line 0 1 2;through one 0 1");
        x.mending(0, 3, 5);
        x.mending(0, 8, 9);
        best(x, 99, 9, 2, 8);
        none("no such coins", x.mend(-1));
        none("no such coins", x.mend(100000));
        is("set", x.mended(0), 2);
        is("coins", x.mended(1), 8);
        x.mending(0, 1, 16);
        is("no other MENDING changes it", x.mended(0), 2);
        is("no other MENDING changes it", x.mended(1), 8);
        best(x, 0, 2, 0, 0);
    }

    @Edge(promise = 19, says = "as long as no other LAND is told")
    static void mendedUntilAnotherLand() {
        LetterThrough x = on("places 2;line 0 1 2;through one 0 1");
        x.mending(0, 3, 5);
        x.mend(99);
        tell(x, "places 2;line 0 1 17");
        is("a refused LAND is none", x.mended(0), 1);
        is("a refused LAND is none", x.mended(1), 3);
        tell(x, "places 2;line 0 1 2;through one 0 1");
        none("another LAND of the same text", x.mended(0));
        none("another LAND of the same text", x.mended(1));
    }

    @Edge(promise = 19, says = "or for another what")
    static void noSuchWhatOfMended() {
        LetterThrough x = on(TRIANGLE);
        x.mend(5);
        for (int what : new int[] {LOW, -1, 2, HIGH}) {
            none("mended " + what, x.mended(what));
        }
    }

    // ---- 20: add ----

    @Edge(promise = 20, says = "NEW with a CHANCE (0 to 16) what 0: the CHANCE, 1: a, 2: b.")
    static void newLineOfNoneAndOfAll() {
        LetterThrough x = on(TRIANGLE);
        is("0", x.add(0, 0), 16 * 2176);
        is("16", x.add(16, 0), 65536);
        is("1", x.add(1, 0), 15 * 2176 + 4096);
        is("the LAND stays", x.count(1), 3);
        is("the LAND stays", x.chance(0), 2176);
    }

    @Edge(promise = 20, says = "NONE without these")
    static void noSuchNewLine() {
        LetterThrough x = on(TRIANGLE);
        for (int wrong : new int[] {LOW, -1, 17, HIGH}) {
            none("CHANCE " + wrong, x.add(wrong, 0));
            none("a for CHANCE " + wrong, x.add(wrong, 1));
        }
        for (int wrong : new int[] {LOW, -1, 3, HIGH}) {
            none("what " + wrong, x.add(8, wrong));
            none("what " + wrong + " for CHANCE 0", x.add(0, wrong));
        }
    }

    @Edge(promise = 20, says = "or if there are more than 10 THINGS")
    static void newLineOfTenThings() {
        is("10 LINES", on(repeat("places 2", ";line 0 1 0", 10)).add(1, 0), 1L << 40);
        none("11 LINES", on(repeat("places 2", ";line 0 1 0", 11)).add(1, 0));
        is("10 with KEEPERS and CAUSES", on(repeat("places 2", ";line 0 1 0", 7) + ";keep 0 16;keep 1 16;cause 16 line 0").add(1, 0), 1L << 40);
        none("11 with KEEPERS and CAUSES", on(repeat("places 2", ";line 0 1 0", 8) + ";keep 0 16;keep 1 16;cause 16 line 0").add(1, 0));
        none("11, what 1", on(repeat("places 2", ";line 0 1 0", 11)).add(1, 1));
        none("15", on(repeat("places 2", ";line 0 1 0", 12) + ";keep 0 16;keep 1 16;cause 16 line 0").add(1, 2));
    }

    @Edge(promise = 20, says = "or 12 LINES")
    static void newLineOfTwelveLines() {
        for (int what = 0; what < 3; what++) {
            none("12 LINES", on(repeat("places 2", ";line 0 1 0", 12)).add(1, what));
        }
    }

    @Edge(promise = 20, says = "that with the greatest CHANCE to be THROUGH (over 16^(M+1)); of several the least a, then b.")
    static void newLineOfSeveral() {
        LetterThrough x = on(TRIANGLE);
        is("of CHANCE 0 all are alike: a", x.add(0, 1), 0);
        is("of CHANCE 0 all are alike: b", x.add(0, 2), 1);
        LetterThrough sure = on("places 4;through some 1 3");
        is("all are alike: a", sure.add(5, 1), 0);
        is("all are alike: b", sure.add(5, 2), 1);
        is("over 16", sure.add(5, 0), 16);
        LetterThrough never = on("places 4;keep 3 0;through some 1 3");
        is("none helps", never.add(16, 0), 0);
        is("a", never.add(16, 1), 0);
        is("b", never.add(16, 2), 1);
        // from 3 one comes to two PLACES by a LINE to any; 0 3, 1 3 and 2 3 are alike
        LetterThrough some = on("places 4;through some 2 3");
        is("the least a", some.add(5, 1), 0);
        is("and its b", some.add(5, 2), 3);
        LetterThrough from = on("places 4;through some 2 0");
        is("a", from.add(5, 1), 0);
        is("the least b", from.add(5, 2), 1);
    }

    @Edge(promise = 20, says = "both ways, of one DAY, CHANCE C, between two PLACES (a below b)")
    static void newLineBothWaysOfOneDay() {
        LetterThrough back = on("places 2;through one 1 0");
        is("from 1 to 0", back.add(16, 0), 16);
        is("a", back.add(16, 1), 0);
        is("b", back.add(16, 2), 1);
        is("one DAY", on("places 2;through days 1 1 0").add(3, 0), 3);
        LetterThrough last = on("places 10;through one 9 8");
        is("a", last.add(16, 1), 8);
        is("b", last.add(16, 2), 9);
        is("one DAY and one of another LINE", on("places 3;line 0 2 16;through days 1 1 2").add(16, 1), 1);
        is("among ten, too", on("places 10;through days 9 1 0").add(16, 0), 16);
        is("only where both STAND", on("places 2;keep 0 3;keep 1 5;through one 0 1").add(16, 0), 15 * 16);
        LetterThrough to = on("places 3;keep 1 5;keep 2 7;through some 2 0");
        is("only if b STANDS", to.add(16, 0), 7 * 256);
        is("so rather to 2", to.add(16, 2), 2);
        LetterThrough from = on("places 3;keep 0 5;keep 1 7;through some 2 2");
        is("only if a STANDS", from.add(16, 0), 7 * 256);
        is("so rather from 1", from.add(16, 1), 1);
        is("no CAUSE names it", on("places 2;line 0 1 0;cause 0 line 0;through one 0 1").add(16, 0), 4096);
        is("a second way", on("places 2;line 0 1 16;through two 0 1").add(7, 0), 7 * 16);
    }

    // ---- 21: plan ----

    @Edge(promise = 21, says = "PLAN for n sixteenths (0 to 16): the set; -2: none; NONE for others.")
    static void planForNoneToAll() {
        LetterThrough x = on("places 2;line 0 1 16 days 9;through one 0 1");
        is("0", x.plan(0), 0);
        is("1", x.plan(1), 1);
        is("16", x.plan(16), 1);
        for (int n : new int[] {LOW, -2, -1, 17, HIGH}) {
            none("plan " + n, x.plan(n));
        }
        LetterThrough never = on("places 2;line 0 1 15;through one 0 1");
        is("16 of 15", never.plan(16), -2);
        is("15 of 15", never.plan(15), 1);
    }

    @Edge(promise = 21, says = "PLAN, LINES built or not (all other THINGS as they are; one that is not built has fallen)")
    static void planWithoutLines() {
        is("never", new LetterThrough().plan(1), -2);
        is("never, but for 0", new LetterThrough().plan(0), 0);
        for (int n = 0; n <= 16; n++) {
            is("always, for " + n, on("places 2;through some 1 0").plan(n), 0);
        }
        is("always, with a LINE", on("places 2;line 0 1 16;through some 1 0").plan(16), 0);
        is("as the KEEPER is", on("places 2;line 0 1 16;keep 0 4;through one 0 1").plan(4), 1);
        is("not above it", on("places 2;line 0 1 16;keep 0 4;through one 0 1").plan(5), -2);
        is("all twelve", on(repeat("places 2", ";line 0 1 1", 12) + ";through one 0 1").plan(8), 2047);
    }

    @Edge(promise = 21, says = "the set with a CHANCE to be THROUGH of n sixteenths or more")
    static void planForJustSoMany() {
        LetterThrough x = on("places 2;line 0 1 8;keep 0 8;through one 0 1");
        is("4 of 4", x.plan(4), 1);
        is("5 of 4", x.plan(5), -2);
        LetterThrough below = on("places 3;line 0 1 15;line 1 2 15;through one 0 2");
        is("14 of 14 and one of 16", below.plan(14), 3);
        is("15 of 14 and one of 16", below.plan(15), -2);
        is("16 of 15 THINGS", on(FULL).plan(16), 1);
        is("16, but for one", on(FULL.replace("keep 0 16", "keep 0 15")).plan(16), -2);
    }

    @Edge(promise = 21, says = "and the least LENGTH (its DAYS together); of several the greatest CHANCE; then the least number.")
    static void planOfSeveral() {
        is("the least LENGTH", on("places 2;line 0 1 16 days 3;line 0 1 8 days 2;through one 0 1").plan(8), 2);
        is("of two LINES", on("places 3;line 0 2 16 days 3;line 0 1 15;line 1 2 15;through one 0 2").plan(8), 6);
        is("as long: the greatest CHANCE", on("places 2;line 0 1 8 days 2;line 0 1 9 days 2;through one 0 1").plan(8), 2);
        is("as long, of two LINES", on("places 3;line 0 1 16;line 1 2 16;line 0 2 15 days 2;through one 0 2").plan(8), 3);
        is("as likely: the least number", on("places 2;line 0 1 9 days 2;line 0 1 9 days 2;through one 0 1").plan(8), 1);
        is("no LINE more than needed", on("places 2;line 0 1 8;line 0 1 16;through one 0 1").plan(8), 2);
    }

    // ---- 22: judge ----

    @Edge(promise = 22, says = "The CHANCE with a set of LINES built (bits)")
    static void judgeNoneAndAll() {
        is("none", on(TRIANGLE).judge(0), 0);
        is("all", on(TRIANGLE).judge(7), 2176);
        is("of no LINES", new LetterThrough().judge(0), 0);
        is("of no LINES, always", on("places 2;through some 1 0").judge(0), 1);
        is("all twelve", on(FULL).judge(4095), 1L << 60);
        is("none of twelve", on(FULL).judge(0), 0);
        is("one of twelve", on(FULL).judge(2048), 1L << 60);
        is("one that has CHANCE 0", on("places 2;line 0 1 0;line 0 1 5;through one 0 1").judge(1), 0);
    }

    @Edge(promise = 22, says = "NONE for others")
    static void judgeBeyond() {
        for (int set : new int[] {LOW, -1, 8, 9, 1 << 30, LOW + 1, HIGH}) {
            none("judge " + set, on(TRIANGLE).judge(set));
        }
        none("of no LINES", new LetterThrough().judge(1));
        none("a KEEPER is no LINE", on(KEPT).judge(2));
        none("bit 12", on(repeat("places 2", ";line 0 1 1", 12)).judge(4096));
    }

    // ---- 23: without ----

    @Edge(promise = 23, says = "The CHANCE if a CAUSE (0, 1, ..) always stayed away, over 16^(M-1)")
    static void withoutFirstAndLast() {
        LetterThrough x = on("places 2;line 0 1 16;cause 2 line 0;cause 0 place 0;cause 16 place 1;through one 0 1");
        is("the first", x.without(0), 0);
        is("one that always comes", x.without(1), 2 * 256);
        is("one that never comes", x.without(2), 0);
        is("the only THING", on("places 2;cause 0 place 0;through some 1 0").without(0), 1);
        String full = repeat("places 2", ";line 0 1 16", 12) + ";keep 0 16;keep 1 16;cause 0 place 0";
        is("of 15 THINGS", on(full).without(0), 1L << 56);
    }

    @Edge(promise = 23, says = "NONE without it")
    static void noSuchCause() {
        LetterThrough x = on("places 2;line 0 1 16;cause 2 line 0;cause 0 place 0;cause 16 place 1;through one 0 1");
        for (int cause : new int[] {LOW, -1, 3, 4, HIGH}) {
            none("without " + cause, x.without(cause));
        }
        none("of no CAUSES", on(TRIANGLE).without(0));
        none("the second of one", on(KEPT).without(1));
        none("of a new object", new LetterThrough().without(0));
    }
}
