/** Boundary cases of promises 31 to 40: CAUSES apart, alike CHANCES, TREES, LOOKS, MEANS, IMAGES and counts. */
final class OtherEdges extends Checks {
    // ---- 31: alone ----

    @Edge(promise = 31, says = "ALONE what 0: the CHANCE, 1: over what")
    static void aloneOfNoThings() {
        is("never", new LetterThrough().alone(0), 0);
        is("over 1", new LetterThrough().alone(1), 1);
        is("always", on("places 2;through some 1 0").alone(0), 1);
        is("no CAUSES", on(TRIANGLE).alone(0), 2176);
        is("no CAUSES, over", on(TRIANGLE).alone(1), 4096);
        is("a CAUSE of one ITEM", on("places 2;line 0 1 8;cause 3 line 0").alone(0), 24);
        is("over as much as it is", on("places 2;line 0 1 8;cause 3 line 0").alone(1), 256);
    }

    @Edge(promise = 31, says = "over 16 to as many as there are LINES, KEEPERS and such CAUSES, 15 at most")
    static void aloneOfFifteen() {
        String twelve = repeat("places 2", ";line 0 1 16", 12);
        is("12 and 3", on(twelve + ";cause 16 line 0 line 1 line 2").alone(1), 1L << 60);
        is("sure", on(twelve + ";cause 16 line 0 line 1 line 2").alone(0), 1L << 60);
        is("12 and 3 in two", on(twelve + ";cause 16 line 0;cause 0 place 0 line 2").alone(1), 1L << 60);
        is("never", on(twelve + ";cause 16 line 0;cause 0 place 0 line 2").alone(0), 0);
        is("15 at once", on(FULL).alone(0), 1L << 60);
        is("three CAUSES", on("places 2;line 0 1 16;cause 4 line 0;cause 5 place 0;cause 6 place 1").alone(0), 16 * 4 * 5 * 6);
        is("what is not named is not felled", on("places 2;line 0 1 8;cause 3 line 0;through some 1 0").alone(0), 256);
        is("what is not named is not felled", on("places 3;line 0 1 8;cause 3 place 2;through one 0 1").alone(0), 128);
        is("LINE 11", on(repeat("places 2", ";line 0 1 0", 11) + ";line 0 1 16;cause 5 line 11").alone(0), 5L << 48);
        is("PLACE 9", on("places 10;line 9 8 16;cause 5 place 9;through one 9 8").alone(0), 80);
        is("what is named is", on("places 3;line 0 1 8;cause 3 place 1;through one 0 1").alone(0), 24);
    }

    @Edge(promise = 31, says = "(an ITEM named several times by one CAUSE: one)")
    static void aloneOfItemToldTwice() {
        LetterThrough x = on("places 2;line 0 1 16;cause 4 line 0 place 0 line 0 place 0 line 0;through one 0 1");
        is("two ITEMS", x.alone(0), 16 * 4 * 4);
        is("over", x.alone(1), 4096);
        LetterThrough two = on("places 2;line 0 1 16;cause 4 line 0;cause 4 line 0;through one 0 1");
        is("by two CAUSES: two", two.alone(1), 4096);
        is("by two CAUSES: two", two.alone(0), 16 * 4 * 4);
        String twelve = repeat("places 2", ";line 0 1 16", 12);
        is("15 with those told twice", on(twelve + ";cause 16 line 0 line 1 line 2 line 0 line 1").alone(1), 1L << 60);
        is("LINE 0 and PLACE 0 are two", on("places 2;line 0 1 8;cause 4 line 0 place 0").alone(1), 4096);
    }

    @Edge(promise = 31, says = "NONE for others, or above 15")
    static void noSuchAlone() {
        for (int what : new int[] {LOW, -1, 2, HIGH}) {
            none("alone " + what, on(TRIANGLE).alone(what));
        }
        String twelve = repeat("places 5", ";line 0 1 16", 12);
        none("16, the CHANCE", on(twelve + ";cause 16 line 0 line 1 line 2 line 3").alone(0));
        none("16, over what", on(twelve + ";cause 16 line 0 line 1 line 2 line 3").alone(1));
        none("16 by KEEPERS and CAUSES", on(twelve + ";keep 0 16;cause 16 line 0 place 1;cause 0 place 2").alone(1));
        String all = ";cause 1 line 0 line 1 line 2 line 3 line 4 line 5 line 6 line 7 line 8 line 9 line 10 line 11 place 0 place 1";
        none("26", on(twelve + all).alone(1));
    }

    // ---- 32: alike ----

    @Edge(promise = 32, says = "ALIKE for a CHANCE (0 to 16), over 16^LINES")
    static void alikeForNoneAndForAll() {
        is("0", on(TRIANGLE).alike(0), 0);
        is("1", on(TRIANGLE).alike(1), 15 * 15 + 3 * 15 + 1);
        is("15", on(TRIANGLE).alike(15), 15 + 3 * 225 + 3375);
        is("16", on(TRIANGLE).alike(16), 4096);
        is("0, always", on(ALWAYS).alike(0), 16);
        is("5, always", on(ALWAYS).alike(5), 16);
        is("16, never", on(NEVER).alike(16), 0);
        is("of twelve", on(FULL).alike(16), 1L << 48);
        is("of twelve, one", on(FULL).alike(1), (1L << 48) - 129746337890625L);
    }

    @Edge(promise = 32, says = "the CHANCE if each LINE had the CHANCE c and all other THINGS HELD")
    static void alikeWithoutLines() {
        is("never", new LetterThrough().alike(16), 0);
        is("always, 16", on("places 2;through some 1 0").alike(16), 1);
        is("always, 0", on("places 2;through some 1 0").alike(0), 1);
        is("KEEPERS and CAUSES HOLD", on("places 2;line 0 1 0;keep 0 0;cause 0 line 0 place 1").alike(7), 7);
    }

    @Edge(promise = 32, says = "NONE for others")
    static void noSuchAlike() {
        for (int c : new int[] {LOW, -1, 17, HIGH}) {
            none("alike " + c, on(TRIANGLE).alike(c));
            none("alike " + c + " of no LINES", new LetterThrough().alike(c));
        }
    }

    // ---- 33: even ----

    @Edge(promise = 33, says = "for each k from 1 to LINES - 1 its square is not below the product of the one ahead and the one behind")
    static void evenOfFewLines() {
        is("no LINES", new LetterThrough().even(), 1);
        is("no LINES, always", on("places 2;through some 1 0").even(), 1);
        is("one LINE: 0 1", on("places 2;line 0 1 8").even(), 1);
        is("one LINE: 1 1", on(ALWAYS).even(), 1);
        is("two LINES: 0 0 1", on("places 3;line 0 1 8;line 1 2 8").even(), 1);
        is("two LINES: 1 2 1", on("places 2;line 0 1 8;line 0 1 8;through some 1 0").even(), 1);
    }

    @Edge(promise = 33, says = "1 if the ROW is EVEN, 0 if not")
    static void evenAndNot() {
        is("0 0 0: as much is not below", on("places 3;line 0 1 8;line 0 1 8;through one 0 2").even(), 1);
        is("twelve, from 1 to 924 to 1", on(repeat("places 2", ";line 0 1 8", 12) + ";through some 1 0").even(), 1);
        // two LINES straight and ten on a way that is too long to be needed: 0 0 1 10 117 ..
        LetterThrough x = on("places 4;line 0 1 8;line 0 1 8;line 0 2 8;line 0 2 8;line 0 2 8;line 2 3 8;line 2 3 8"
                + ";line 2 3 8;line 3 1 8;line 3 1 8;line 3 1 8;line 3 1 8;through two 0 1");
        int[] row = {0, 0, 1, 10, 117};
        for (int k = 0; k < 5; k++) {
            is("row " + k, x.row(k), row[k]);
        }
        is("100 is below 117", x.even(), 0);
    }

    // ---- 34: trees ----

    @Edge(promise = 34, says = "how many sets of LINES there are that are one fewer than PLACES, and join all PLACES (as both ways, all OPEN)")
    static void treesOfNoneAndOfAll() {
        is("no LINES", new LetterThrough().trees(), 0);
        is("one LINE", on("places 2;line 0 1 8").trees(), 1);
        is("be it never OPEN, and one way", on("places 2;line 1 0 0 one;keep 0 0;cause 0 line 0").trees(), 1);
        is("twelve LINES between two", on(FULL).trees(), 12);
        is("a PLACE without a LINE", on(FULL.replace("places 2", "places 3")).trees(), 0);
        String chain = chain(10, "8");
        is("nine LINES for ten", on(chain).trees(), 1);
        is("a ring of ten", on(chain + ";line 9 0 8").trees(), 10);
        is("a ring of ten, and one of them twice more", on(chain + ";line 9 0 8;line 0 9 8;line 0 9 8").trees(), 28);
        is("eight for ten", on(chain.replace(";line 4 5 8", "")).trees(), 0);
        is("nine for ten, but with a ring", on(chain.replace(";line 4 5 8", ";line 5 9 8")).trees(), 0);
        is("four all together", on("places 4;line 0 1 8;line 0 2 8;line 0 3 8;line 1 2 8;line 1 3 8;line 2 3 8").trees(), 16);
    }

    // ---- 35: looks ----

    @Edge(promise = 35, says = "LOOKS what 0: how many, 1: the first THING (NONE: no look)")
    static void noLook() {
        is("of no THINGS", new LetterThrough().looks(0), 0);
        none("of no THINGS", new LetterThrough().looks(1));
        is("always", on(ALWAYS).looks(0), 0);
        none("always", on(ALWAYS).looks(1));
        is("never", on(NEVER).looks(0), 0);
        none("never", on(NEVER).looks(1));
        is("one", on("places 2;line 0 1 8").looks(0), 1);
        is("the first", on("places 2;line 0 1 8").looks(1), 0);
    }

    @Edge(promise = 35, says = "NONE for others, or if there are more than 9 THINGS")
    static void looksOfNineThings() {
        String nine = repeat("places 2", ";line 0 1 1", 9);
        is("9", on(nine).looks(0), 9);
        is("9, the first", on(nine).looks(1), 0);
        is("9, the last alone", on(repeat("places 2", ";line 0 1 1", 8) + ";keep 0 1;through some 1 0").looks(0), 1);
        is("9, the last alone", on(repeat("places 2", ";line 0 1 1", 8) + ";keep 0 1;through some 1 0").looks(1), 8);
        for (int what = 0; what < 2; what++) {
            none("10 LINES", on(nine + ";line 0 1 1").looks(what));
            none("10 with KEEPER", on(nine + ";keep 0 1").looks(what));
            none("10 with CAUSE", on(nine + ";cause 1 place 0").looks(what));
            none("10, always", on(nine + ";keep 0 1;through some 1 1").looks(what));
            none("15", on(FULL).looks(what));
        }
        for (int what : new int[] {LOW, -1, 2, HIGH}) {
            none("looks " + what, on(TRIANGLE).looks(what));
            none("looks " + what + " of no THINGS", new LetterThrough().looks(what));
        }
    }

    @Edge(promise = 35, says = "the fewest by which that is so whatever is found; the first THING of such a way, of several the least")
    static void fewestLooks() {
        is("a THING of CHANCE 16 is looked at, too", on("places 2;line 0 1 16;through one 0 1").looks(0), 1);
        is("a THING of CHANCE 0 is looked at, too", on("places 2;line 0 1 0;through one 0 1").looks(0), 1);
        is("not at a USELESS one", on("places 3;line 0 2 8;line 0 1 8;through one 0 1").looks(0), 1);
        is("the first is the other", on("places 3;line 0 2 8;line 0 1 8;through one 0 1").looks(1), 1);
        is("any first: the least", on(TRIANGLE).looks(1), 0);
        // Ways are 0 2, 1 2 and 1 3: with 1 (or 2) first two more tell, with 0 or 3 three more may be needed.
        LetterThrough x = on("places 4;line 3 2 8;line 0 1 8;line 0 3 8;line 1 3 8 one;through some 3 0");
        is("not all four", x.looks(0), 3);
        is("of 1 and 2 the least", x.looks(1), 1);
    }

    // ---- 36: mean ----

    @Edge(promise = 36, says = "days times the CHANCE that the letter takes so many (as WITHIN: 1 to 99), together (64 bits, going round)")
    static void meanGoesRound() {
        String fourteen = repeat("places 2", ";line 0 1 0", 11) + ";keep 0 16;keep 1 16;cause 16 line 0";
        is("7 times 2^60", on(fourteen + ";line 0 1 16 days 7").mean(0, 1, 0), 7L << 60);
        is("8 times 2^60", on(fourteen + ";line 0 1 16 days 8").mean(0, 1, 0), Long.MIN_VALUE);
        is("9 times 2^60", on(fourteen + ";line 0 1 16 days 9").mean(0, 1, 0), -7L << 60);
        is("below it", on(fourteen + ";line 0 1 16 days 9").mean(0, 1, 1), 1L << 60);
        String far = chain(10, "16 days 9") + ";keep 0 16;keep 1 16;keep 2 16;keep 3 16;keep 4 16;keep 5 16";
        is("81 times 2^60", on(far).mean(9, 0, 0), 1L << 60);
    }

    @Edge(promise = 36, says = "by the CHANCE that it comes within 99")
    static void meanOfWhatNeverComes() {
        is("above", on(NEVER).mean(0, 2, 0), 0);
        is("below", on(NEVER).mean(0, 2, 1), 0);
        is("of no THINGS, above", new LetterThrough().mean(0, 1, 0), 0);
        is("of no THINGS, below", new LetterThrough().mean(1, 0, 1), 0);
        is("against the way", on("places 2;line 0 1 16 one").mean(1, 0, 1), 0);
        is("one DAY", on("places 2;line 0 1 5").mean(0, 1, 0), 5);
        is("nine DAYS", on("places 2;line 0 1 5 days 9").mean(0, 1, 0), 45);
        is("one or nine", on("places 2;line 0 1 5 days 9;line 0 1 8").mean(0, 1, 0), 128 + 9 * 40);
        is("below", on("places 2;line 0 1 5 days 9;line 0 1 8").mean(0, 1, 1), 168);
    }

    @Edge(promise = 36, says = "NONE without these")
    static void noSuchMean() {
        LetterThrough x = on(TRIANGLE);
        for (int part : new int[] {LOW, -1, 2, HIGH}) {
            none("part " + part, x.mean(0, 2, part));
        }
        for (int p : new int[] {LOW, -1, 3, HIGH}) {
            none("from " + p, x.mean(p, 0, 0));
            none("to " + p, x.mean(0, p, 1));
        }
        none("to itself", x.mean(1, 1, 0));
        none("to itself", x.mean(0, 0, 1));
    }

    // ---- 37: differ ----

    @Edge(promise = 37, says = "DIFFER of two THINGS which 0: both, 1: a alone, 2: b alone, 3: none")
    static void differOfAllKinds() {
        LetterThrough x = on("places 2;line 0 1 3;line 0 1 0;through some 1 0");
        int[] wants = {0, 3 * 16, 0, 13 * 16};
        int[] other = {0, 0, 3 * 16, 13 * 16};
        for (int which = 0; which < 4; which++) {
            is("0 and 1, " + which, x.differ(0, 1, which), wants[which]);
            is("1 and 0, " + which, x.differ(1, 0, which), other[which]);
        }
        is("THINGS 13 and 14 of 15", on(FULL).differ(14, 13, 0), 1L << 60);
        is("THINGS 0 and 14 of 15", on(FULL).differ(0, 14, 3), 0);
        is("KEEPER alone", on(FULL.replace("cause 16", "cause 0")).differ(13, 14, 1), 1L << 60);
    }

    @Edge(promise = 37, says = "NONE without these (a and b unlike)")
    static void noSuchDiffer() {
        LetterThrough x = on(TRIANGLE);
        for (int which : new int[] {LOW, -1, 4, HIGH}) {
            none("which " + which, x.differ(0, 1, which));
        }
        for (int which = 0; which < 4; which++) {
            for (int t : new int[] {LOW, -1, 3, 32, HIGH}) {
                none("of " + t, x.differ(t, 0, which));
                none("and " + t, x.differ(0, t, which));
            }
            none("2 and itself", x.differ(2, 2, which));
            none("of one THING", on("places 2;line 0 1 8").differ(0, 1, which));
            none("of no THINGS", new LetterThrough().differ(0, 1, which));
        }
        none("THING 15", on(FULL).differ(15, 0, 0));
    }

    // ---- 38: image ----

    @Edge(promise = 38, says = "An IMAGE is made (also where nothing was told yet): M")
    static void imageOfNothing() {
        LetterThrough x = new LetterThrough();
        for (int k = 0; k < 4; k++) {
            is("IMAGE " + k, x.image(k), 0);
        }
        tell(x, KEPT);
        is("of 3 THINGS", x.image(1), 3);
        tell(x, FULL);
        is("of 15 THINGS", x.image(2), 15);
        is("nothing was told", x.restore(0), 0);
        is("PLACES", x.count(0), 2);
        is("LINES", x.count(1), 0);
        is("all", x.count(6), 1);
        is("3 THINGS", x.restore(1), 3);
        is("CHANCE", x.chance(0), 1536);
        is("15 THINGS", x.restore(2), 15);
        is("CHANCE", x.chance(0), 1L << 60);
        is("nothing was told", x.restore(3), 0);
    }

    @Edge(promise = 38, says = "NONE for another k")
    static void noSuchImage() {
        LetterThrough x = on(TRIANGLE);
        for (int k : new int[] {LOW, -1, 4, 32, HIGH}) {
            none("image " + k, x.image(k));
        }
        for (int k = 0; k < 4; k++) {
            none("none was made, " + k, x.restore(k));
        }
    }

    @Edge(promise = 38, says = "IMAGES 0 to 3: the LAND, its MENDINGS and LETTERS as they are.")
    static void imageAsTheyAre() {
        LetterThrough x = on(TRIANGLE);
        x.mending(2, 5, 16);
        x.letter(0, 2, false);
        x.mend(5);
        is("IMAGE", x.image(3), 3);
        is("it changes nothing: mended", x.mended(0), 1);
        is("it changes nothing: MENDINGS", x.count(4), 1);
        is("it changes nothing: LETTERS", x.count(5), 1);
        x.mending(0, 1, 16);
        x.mending(1, 1, 16);
        x.letter(1, 2, true);
        is("one of three MENDINGS", x.restore(3), 3);
        is("MENDINGS", x.count(4), 1);
        is("LETTERS", x.count(5), 1);
        is("what it mends", x.mend(2), 2176);
        is("what is known", x.thought(2, 1), 1920);
        is("made anew, the one ahead is no more", x.image(3), 3);
        tell(x, KEPT);
        is("of the other LAND", x.image(3), 3);
        x.restore(3);
        is("CHANCE", x.chance(0), 1536);
        is("no MENDINGS", x.count(4), 0);
        is("no LETTERS", x.count(5), 0);
    }

    // ---- 39: restore ----

    @Edge(promise = 39, says = "All is as in an IMAGE (mended() is NONE then): M")
    static void restoreAll() {
        LetterThrough x = on(TRIANGLE);
        x.mending(2, 5, 16);
        x.letter(0, 2, false);
        x.image(0);
        is("mend", x.mend(5), 4096);
        is("M", x.restore(0), 3);
        none("mended set", x.mended(0));
        none("mended coins", x.mended(1));
        is("mend", x.mend(5), 4096);
        is("mended set", x.mended(0), 1);
        tell(x, "places 10;line 9 8 1 one days 9;keep 0 1;keep 1 1;cause 1 line 0 place 0;through days 5 9 8");
        x.letter(0, 1, true);
        is("M", x.restore(0), 3);
        int[] counts = {3, 3, 0, 0, 1, 1, 0, 0};
        for (int what = 0; what < 8; what++) {
            is("count " + what, x.count(what), counts[what]);
        }
        int[] line = {0, 1, 8, 1, 1, 0};
        for (int what = 0; what < 6; what++) {
            is("line 0 " + what, x.line(0, what), line[what]);
        }
        is("no KEEPER", x.place(0, 1), NONE);
        is("no CAUSE", x.place(0, 2), 0);
        is("CHANCE", x.chance(0), 2176);
        is("MENDING", x.mend(99), 4096);
        is("THOUGHT", x.thought(2, 0), 0);
        is("of", x.thought(2, 1), 1920);
    }

    @Edge(promise = 39, says = "All is as in an IMAGE")
    static void nothingStaysOfWhatWasAhead() {
        for (String before : LANDS) {
            for (String after : LANDS) {
                LetterThrough x = on(after);
                note(x, 16, true);
                x.image(2);
                tell(x, before);
                note(x, 15, false);
                note(x, 16, false);
                answers(x);
                x.restore(2);
                LetterThrough y = on(after);
                note(y, 16, true);
                same("[" + after + "] instead of [" + before + "]", answers(x), answers(y));
            }
        }
    }

    /** MENDINGS and LETTERS that are others for other arguments. */
    private static void note(LetterThrough x, int to, boolean came) {
        x.mending(x.count(1) - 1, to - 12, to);
        x.mending(0, to - 10, to - 1);
        x.letter(0, x.count(0) - 1, came);
        x.letter(came ? 1 : 0, came ? 0 : 1, !came);
    }

    @Edge(promise = 39, says = "NONE, and nothing happens, if it was never made, or without it.")
    static void restoreOfNone() {
        LetterThrough x = on(TRIANGLE);
        x.mending(2, 5, 16);
        x.letter(0, 2, false);
        x.mend(5);
        x.image(1);
        for (int k : new int[] {LOW, -1, 0, 2, 3, 4, 32, 33, HIGH}) {
            none("restore " + k, x.restore(k));
        }
        is("MENDINGS", x.count(4), 1);
        is("LETTERS", x.count(5), 1);
        is("mended set", x.mended(0), 1);
        is("mended coins", x.mended(1), 5);
        is("CHANCE", x.chance(0), 2176);
        none("of a new object", new LetterThrough().restore(0));
        is("another object has its own", new LetterThrough().restore(1), NONE);
    }

    // ---- 40: count ----

    @Edge(promise = 40, says = "What 0: PLACES, 1: LINES, 2: KEEPERS, 3: CAUSES, 4: MENDINGS, 5: LETTERS")
    static void countUpToAll() {
        LetterThrough x = on(repeat("places 10", ";line 0 1 1", 12) + ";keep 9 1;cause 1 place 0;cause 1 place 0");
        for (int i = 0; i < 12; i++) {
            x.mending(0, 1, 16);
            x.letter(0, 1, true);
        }
        x.feed(0, 0, 0, 0, 0);
        int[] counts = {10, 12, 1, 2, 9, 6, 1, 20};
        for (int what = 0; what < 8; what++) {
            is("count " + what, x.count(what), counts[what]);
        }
        StringBuilder kept = new StringBuilder("places 10");
        for (int p = 0; p < 10; p++) {
            kept.append(";keep ").append(p).append(" 1");
        }
        LetterThrough y = on(kept + ";cause 1 place 0;cause 1 place 0;cause 1 place 0");
        is("KEEPERS", y.count(2), 10);
        is("CAUSES", y.count(3), 3);
    }

    @Edge(promise = 40, says = "6: WHAT (0 one, 1 all, 2 some, 3 days, 4 two)")
    static void countOfEachWhat() {
        String[] kinds = {"one 0 1", "all", "some 2 0", "days 99 0 1", "two 1 0"};
        for (int i = 0; i < kinds.length; i++) {
            is(kinds[i], on("places 2;through " + kinds[i]).count(6), i);
        }
        is("without", on("places 2").count(6), 1);
    }

    @Edge(promise = 40, says = "7: bytes of the TAPE")
    static void countOfBytes() {
        LetterThrough x = new LetterThrough();
        is("none", x.count(7), 0);
        for (int i = 0; i < 21; i++) {
            x.feed(0, 0, 0, 0, 0);
        }
        is("400", x.count(7), 400);
        x.end(1);
        is("1", x.count(7), 1);
    }

    @Edge(promise = 40, says = "NONE for others")
    static void noSuchCount() {
        for (int what : new int[] {LOW, -1, 8, HIGH}) {
            none("count " + what, on(TRIANGLE).count(what));
            none("count " + what + " of a new object", new LetterThrough().count(what));
        }
    }
}
