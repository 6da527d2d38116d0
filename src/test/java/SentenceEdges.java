/** Sentences that name no boundary, but what is meant: with these each sentence of the document has a test of its own. */
final class SentenceEdges extends Checks {
    private static final String RING = "places 3;line 0 1 8;line 1 2 8;line 0 2 8;through ";

    /** A sign for each SET, from the empty one on. */
    private static void sets(String text, String wants) {
        LetterThrough x = on(text);
        for (int s = 0; s < wants.length(); s++) {
            is("so(" + s + ") of [" + text + "]", x.so(s), wants.charAt(s) - '0');
        }
    }

    // ---- the text ----

    @Edge(promise = 4, says = "places N (2 to 10; the first CLAUSE, and no other one)")
    static void placesFirst() {
        LetterThrough x = on("places 7");
        is("PLACES", x.count(0), 7);
        is("no other CLAUSE first", tell(x, "line 0 1 8;places 2"), fault(0, 0));
        is("not once more at the end", tell(x, "places 2;line 0 1 8;places 2"), fault(20, 0));
        is("not once more as it is", tell(x, "places 2;places 2"), fault(9, 0));
        is("PLACES", x.count(0), 7);
    }

    @Edge(promise = 4, says = "line A B C { one | days D }")
    static void lineWithWhatGoesOn() {
        String[] behind = {"", " one", " days 3", " one days 3", " days 3 one"};
        int[] bothWays = {1, 0, 1, 0, 0};
        int[] days = {1, 1, 3, 3, 3};
        for (int i = 0; i < behind.length; i++) {
            LetterThrough x = on("places 5;line 4 2 9" + behind[i] + ";line 2 4 8");
            int[] wants = {4, 2, 9, bothWays[i], days[i], 0};
            for (int what = 0; what < 6; what++) {
                is("line 0 1 9" + behind[i] + ", " + what, x.line(0, what), wants[what]);
            }
            is("the next LINE has its own", x.line(1, 3) * 10 + x.line(1, 4), 11);
        }
    }

    @Edge(promise = 4, says = "ITEM: line K (told ahead in the text) | place P.")
    static void itemsOfBothKinds() {
        LetterThrough x = on("places 3;line 0 1 8;line 1 2 8;cause 1 line 1;cause 2 place 2;cause 3 place 1 line 0 line 1 place 2");
        int[] lines = {4, 5};
        int[] places = {0, 4, 6};
        for (int k = 0; k < 2; k++) {
            is("LINE " + k, x.line(k, 5), lines[k]);
        }
        for (int p = 0; p < 3; p++) {
            is("PLACE " + p, x.place(p, 2), places[p]);
        }
        is("an ITEM is no NUMBER alone", tell(x, "places 3;line 0 1 8;cause 1 0"), fault(28, 0));
    }

    @Edge(promise = 4, says = "WHAT: one A B | all | some K A (K 1 to N) | days D A B (D 1 to 99) | two A B (A and B unlike).")
    static void eachWhat() {
        sets(RING + "one 0 2", "00011111");
        sets(RING + "all", "00010111");
        sets(RING + "some 2 0", "01011111");
        sets(RING + "some 3 0", "00010111");
        sets(RING + "days 1 0 2", "00001111");
        sets(RING + "days 2 0 2", "00011111");
        sets(RING + "two 0 2", "00000001");
    }

    @Edge(promise = 4, says = "The TAPE, which is empty then, is the LAND (MENDINGS and LETTERS go): M; -2 - its FAULT")
    static void landAnswersHowManyThings() {
        LetterThrough x = new LetterThrough();
        is("no THINGS", tell(x, "places 2"), 0);
        is("a LINE", tell(x, "places 2;line 0 1 8"), 1);
        is("a LINE, a KEEPER, a CAUSE", tell(x, KEPT), 3);
        is("fifteen", tell(x, FULL), 15);
        is("a FAULT at 7", tell(x, "places 1"), -2 - (1 + 8 * 7 + 1));
    }

    // ---- CHANCES ----

    @Edge(promise = 7, says = "1 if it is THROUGH with a SET, 0 if not")
    static void soOfEachSet() {
        sets(TRIANGLE, "00011111");
        sets(KEPT, "00000001");
        sets(ALWAYS, "11");
        sets(NEVER, "00");
    }

    @Edge(promise = 8, says = "The CHANCE of a SET: the product of the CHANCES of THINGS in it and of 16 less those of the others.")
    static void chanceOfSets() {
        // 0 and 1 without 2, and all with 2
        is("of TRIANGLE", on(TRIANGLE).chance(0), 8 * 12 * 12 + 16 * 16 * 4);
        is("of KEPT", on(KEPT).chance(0), 16 * 8 * 12);
    }

    @Edge(promise = 9, says = "The same with a THING as sure")
    static void sureOfEachThing() {
        LetterThrough x = on(TRIANGLE);
        int[] holds = {208, 160, 256};
        int[] fallen = {64, 64, 96};
        for (int t = 0; t < 3; t++) {
            is("THING " + t + " HOLDS", x.sure(t, true), holds[t]);
            is("THING " + t + " has fallen", x.sure(t, false), fallen[t]);
        }
    }

    @Edge(promise = 10, says = "MATTERS: the one less the other. It DECIDES in a SET of all others, if with it it is THROUGH, and without it isn't.")
    static void mattersOfEachThing() {
        LetterThrough x = on(TRIANGLE);
        int[] weight = {144, 96, 160};
        int[] decides = {1, 1, 3};
        for (int t = 0; t < 3; t++) {
            is("MATTERS " + t, x.matters(t, 0), weight[t]);
            is("DECIDES " + t, x.matters(t, 1), decides[t]);
        }
    }

    @Edge(promise = 11, says = "The THING that MATTERS most")
    static void mostOfThree() {
        is("the last", on(TRIANGLE).most(), 2);
        is("beside a frail one", on("places 3;line 0 1 8;line 1 2 4;through one 0 2").most(), 1);
        is("beside a frail KEEPER", on("places 3;line 0 1 8;line 1 2 9;keep 1 4;through one 0 2").most(), 2);
        is("the first", on("places 3;line 0 1 4;line 1 2 8;through one 0 2").most(), 0);
    }

    @Edge(promise = 14, says = "WAYS: least SETS with which it is THROUGH (with none of which one THING less it is).")
    static void waysAndCutsOfTriangle() {
        LetterThrough x = on(TRIANGLE);
        is("WAYS", x.ways(false), 2);
        is("0 and 1, by 96 of 256", x.way(false, 0), 3);
        is("2, by 64 of 256", x.way(false, 1), 4);
        is("CUTS", x.ways(true), 2);
        is("0 and 2, by 96 of 256", x.way(true, 0), 5);
        is("1 and 2, by 48 of 256", x.way(true, 1), 6);
    }

    @Edge(promise = 16, says = "ROW: of k: how many sets of k LINES there are with which it is THROUGH (all other THINGS HOLD).")
    static void rowOfTriangle() {
        int[] wants = {0, 1, 3, 1};
        for (int k = 0; k < 4; k++) {
            is("row " + k, on(TRIANGLE).row(k), wants[k]);
        }
    }

    // ---- coins ----

    @Edge(promise = 19, says = "what 0: the set of MENDINGS, 1: its coins.")
    static void mendedSetAndCoins() {
        LetterThrough x = on(TRIANGLE);
        x.mending(0, 5, 16);
        x.mending(2, 7, 16);
        int[] coins = {4, 6, 99};
        long[] chances = {2176, 3328, 4096};
        int[] cost = {0, 5, 7};
        for (int i = 0; i < 3; i++) {
            is("mend " + coins[i], x.mend(coins[i]), chances[i]);
            is("set for " + coins[i], x.mended(0), i);
            is("coins of " + coins[i], x.mended(1), cost[i]);
        }
    }

    @Edge(promise = 20, says = "NEW: a LINE more, both ways, of one DAY, CHANCE C, between two PLACES (a below b)")
    static void newLine() {
        String[] through = {"one 2 0", "days 1 2 0", "days 1 0 2"};
        for (String what : through) {
            LetterThrough x = on("places 3;line 0 1 16 one;through " + what);
            is("CHANCE, " + what, x.add(5, 0), 16 * 5);
            is("a, " + what, x.add(5, 1), 0);
            is("b, " + what, x.add(5, 2), 2);
            is("it is not told, " + what, x.count(1), 1);
        }
        LetterThrough y = on("places 3;line 0 1 9;line 0 1 9;through one 0 2");
        is("straight", y.add(8, 1) * 10 + y.add(8, 2), 2);
        is("by as much", y.add(8, 0), 8 * 256);
    }

    // ---- LETTERS ----

    @Edge(promise = 25, says = "AGREE: SETS with which all LETTERS are as told.")
    static void lettersThatAgree() {
        LetterThrough x = on(TRIANGLE);
        x.letter(0, 1, true);
        x.letter(0, 2, false);
        int[] holds = {384, 0, 0};
        for (int t = 0; t < 3; t++) {
            is("THING " + t, x.thought(t, 0), holds[t]);
            is("of all", x.thought(t, 1), 8 * 4 * 12);
        }
        is("the CHANCE is as it was", x.chance(0), 2176);
    }

    @Edge(promise = 26, says = "The THING to LOOK FIRST at")
    static void lookFirst() {
        is("the most even", on("places 2;line 0 1 1;line 0 1 9;line 0 1 15").look(), 1);
        is("a KEEPER", on("places 2;line 0 1 1;keep 0 8;cause 15 line 0").look(), 1);
        is("a CAUSE", on("places 2;line 0 1 1;keep 0 13;cause 6 line 0").look(), 2);
    }

    @Edge(promise = 26, says = "LOOK FIRST at the THING by which what AGREES is parted most evenly")
    static void lookAfterALetter() {
        LetterThrough x = on(TRIANGLE);
        is("ahead of any", x.look(), 0);
        x.letter(0, 2, true);
        is("of 2176 by 1024", x.look(), 2);
    }

    @Edge(promise = 29, says = "DRAWS by a seed (0 to 2147483647): x is that; for each draw, THING by THING")
    static void firstDraw() {
        // 1103515245 + 12345 is 1103527590; by 65536 it is 16838, which is 16 times 1052 and 6
        is("6 is below 7", on("places 2;line 0 1 7").draw(1, 1), 1);
        is("6 is not below 6", on("places 2;line 0 1 6").draw(1, 1), 0);
    }

    @Edge(promise = 30, says = "JOINED for two PLACES: LINES as both ways, all OPEN; over and over, as long as it can be")
    static void joinedOverAndOver() {
        String text = "places 6;line 0 2 8;line 0 2 8;line 2 3 8;line 0 3 8;line 3 1 8;line 3 4 8;line 4 5 8";
        is("one after the other", on(text).joined(0, 1), 1);
        is("from the other end", on(text).joined(1, 0), 1);
        is("a dead end that is asked for", on(text).joined(5, 1), 1);
    }

    @Edge(promise = 30, says = "JOINED; NONE without these")
    static void joinedOrNone() {
        is("JOINED", on(TRIANGLE).joined(0, 1), 1);
        none("to itself", on(TRIANGLE).joined(0, 0));
    }

    // ---- and more ----

    @Edge(promise = 31, says = "ALONE: the CHANCE to be THROUGH as if each ITEM that a CAUSE names had a CAUSE of its own of that CHANCE")
    static void aloneAndTogether() {
        LetterThrough x = on("places 2;line 0 1 16;line 0 1 16;cause 8 line 0 line 1;through one 0 1");
        is("together", x.chance(0), 8 * 256);
        is("apart", x.alone(0), (256 - 64) * 256);
        LetterThrough y = on("places 2;line 0 1 16;cause 8 place 0 place 1;cause 4 line 0;through one 0 1");
        is("together", y.chance(0), 16 * 8 * 4);
        is("apart", y.alone(0), 16 * 8 * 8 * 4);
    }

    @Edge(promise = 32, says = "ALIKE: ROW of k times c^k times (16 - c)^(LINES - k), for all k together")
    static void alikeOfTriangle() {
        is("3", on(TRIANGLE).alike(3), 3 * 13 * 13 + 3 * 3 * 3 * 13 + 3 * 3 * 3);
        is("13", on(TRIANGLE).alike(13), 13 * 3 * 3 + 3 * 13 * 13 * 3 + 13 * 13 * 13);
    }

    @Edge(promise = 33, says = "EVEN is the ROW, if for each k from 1 to LINES - 1 its square is not below the product of the one ahead and the one behind")
    static void evenOfTriangle() {
        is("0 1 3 1", on(TRIANGLE).even(), 1);
        is("0 0 0 1", on(RING + "two 0 2").even(), 1);
    }

    @Edge(promise = 34, says = "TREES: how many sets of LINES there are that are one fewer than PLACES, and join all PLACES (as both ways, all OPEN).")
    static void treesOfRings() {
        is("a ring of three", on(TRIANGLE).trees(), 3);
        is("two rings", on("places 4;line 0 1 8;line 1 2 8;line 2 0 8;line 1 3 8;line 2 3 8").trees(), 8);
    }

    @Edge(promise = 34, says = "TREES.")
    static void treesWhateverIsThrough() {
        for (String what : new String[] {"one 0 2", "all", "some 1 0", "days 1 0 2", "two 0 2"}) {
            is(what, on(RING + what).trees(), 3);
        }
    }

    @Edge(promise = 35, says = "LOOKS: one looks at THINGS one by one, each as told by what was found so far, until it is sure whether it is THROUGH")
    static void looksAsTold() {
        // WAYS are 2 0, 0 1 and 1 3: what 0 tells tells, too, which of 2 and 3 is not to be looked at.
        LetterThrough x = on("places 4;line 0 1 8;line 0 3 8;line 1 3 8 one;line 3 2 8;through some 3 0");
        is("three of four", x.looks(0), 3);
        is("0 or 1 first", x.looks(1), 0);
        is("all needed, if one behind the other", on(chain(5, "8") + ";through one 0 4").looks(0), 4);
    }

    @Edge(promise = 36, says = "MEAN of two PLACES part 0: above the line, 1: below it")
    static void meanOfTwoPlaces() {
        is("above: one DAY, or three by 2", on(TRIANGLE).mean(0, 1, 0), 2048 + 3 * 8 * 12 * 4);
        is("below", on(TRIANGLE).mean(0, 1, 1), 2048 + 8 * 12 * 4);
    }

    @Edge(promise = 37, says = "DIFFER: of two THINGS a, b the CHANCE that both HOLD and it is THROUGH, that a alone does, b alone, none of both (each over 16^M).")
    static void differOfTriangle() {
        int[] wants = {512, 1152, 512, 0};
        int[] other = {512, 512, 1152, 0};
        for (int which = 0; which < 4; which++) {
            is("0 and 2, " + which, on(TRIANGLE).differ(0, 2, which), wants[which]);
            is("2 and 0, " + which, on(TRIANGLE).differ(2, 0, which), other[which]);
        }
    }
}
