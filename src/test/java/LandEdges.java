/** Boundary cases of promises 1 to 6: a new object, the TAPE, and texts told as a LAND. */
final class LandEdges extends Checks {
    private static final String TWELVE_LINES = repeat("places 10", ";line 0 1 1", 12);
    private static final String THREE_CAUSES = repeat("places 10", ";cause 1 place 0", 3);
    private static final String FIFTEEN_THINGS = TWELVE_LINES + ";keep 0 1;keep 1 1;keep 2 1";

    /** A text with a ^ where its FAULT is. */
    private static void refused(String marked, int kind) {
        int place = marked.indexOf('^');
        String text = marked.substring(0, place) + marked.substring(place + 1);
        is("[" + text + "]", tell(new LetterThrough(), text), fault(place, kind));
    }

    private static LetterThrough taken(String text, int m) {
        LetterThrough x = new LetterThrough();
        is("[" + text + "]", tell(x, text), m);
        return x;
    }

    private static String filled(String text, int length) {
        return text + " ".repeat(length - text.length());
    }

    // ---- 1: a new object ----

    @Edge(promise = 1, says = "The LAND of two PLACES, without LINES.")
    static void twoPlacesWithoutLines() {
        LetterThrough x = new LetterThrough();
        is("PLACES", x.count(0), 2);
        for (int what = 1; what <= 5; what++) {
            is("nothing else, count " + what, x.count(what), 0);
        }
        is("PLACE 1 has no KEEPER", x.place(1, 0), 16);
        none("PLACE 2", x.place(2, 0));
        none("LINE 0", x.line(0, 0));
        is("16^0", x.chance(1), 1);
    }

    @Edge(promise = 1, says = "through all without")
    static void newObjectIsThroughByAll() {
        LetterThrough x = new LetterThrough();
        is("WHAT", x.count(6), 1);
        is("without LINES it is not THROUGH", x.so(0), 0);
        is("CHANCE", x.chance(0), 0);
    }

    @Edge(promise = 1, says = "A new object")
    static void newTapeIsEmpty() {
        LetterThrough x = new LetterThrough();
        is("bytes", x.count(7), 0);
        none("its first byte", x.end(1));
        is("a LAND of no bytes", x.land(), fault(0, 0));
    }

    @Edge(promise = 1, says = "An object is used for at most 512 calls after it has been made")
    static void lastOfAllCalls() {
        LetterThrough x = new LetterThrough();
        tell(x, TRIANGLE);
        // count, end and land, and the feeds
        int calls = 3 + (TRIANGLE.length() + 19) / 20;
        while (calls < 511) {
            x.letter(calls % 2, 2, calls % 3 == 0);
            calls++;
        }
        is("call 512", x.chance(0), 2176);
    }

    @Edge(promise = 1, says = "public static final int NONE = -1;")
    static void valueOfNone() {
        is("NONE", LetterThrough.NONE, -1);
    }

    // ---- 2: feed ----

    @Edge(promise = 2, says = "how many it has")
    static void feedTellsHowMany() {
        LetterThrough x = new LetterThrough();
        for (int n = 20; n <= 400; n += 20) {
            is("feed", x.feed(0, 0, 0, 0, 0), n);
            is("bytes", x.count(7), n);
        }
        x.end(7);
        is("behind 7", x.feed(0, 0, 0, 0, 0), 27);
    }

    @Edge(promise = 2, says = "NONE, and none comes, if it would have more than 400")
    static void feedWhenFull() {
        LetterThrough x = new LetterThrough();
        feedAll(x, filled("places 3", 400));
        none("at 400", x.feed(-1, -1, -1, -1, -1));
        is("none came", x.count(7), 400);
        is("nor was one changed", x.land(), 0);
    }

    @Edge(promise = 2, says = "if it would have more than 400")
    static void feedJustAboveFull() {
        LetterThrough x = new LetterThrough();
        feedAll(x, filled("places 3", 381));
        none("381 and 20", x.feed(-1, -1, -1, -1, -1));
        is("not a part of them came", x.count(7), 381);
        none("nor a byte behind", x.end(382));
        is("nor was one changed", x.land(), 0);
    }

    @Edge(promise = 2, says = "more than 400")
    static void feedJustFull() {
        LetterThrough x = new LetterThrough();
        feedAll(x, filled("places 3", 380));
        is("380 and 20", x.feed(0x20202020, 0x20202020, 0x20202020, 0x20202020, 0x2020203b), 400);
        is("the last is a byte of the text", x.land(), fault(400, 0));
    }

    @Edge(promise = 2, says = "of each number the highest first")
    static void feedHighestFirst() {
        LetterThrough x = new LetterThrough();
        is("feed", x.feed(0x706c6163, 0x65732032, 0x3b6b6565, 0x70203120, 0x39202020), 20);
        is("places 2;keep 1 9", x.land(), 1);
        is("KEEPER of 1", x.place(1, 0), 9);
    }

    @Edge(promise = 2, says = "Twenty bytes come behind the TAPE")
    static void feedOfExtremes() {
        LetterThrough x = new LetterThrough();
        x.feed(0x20202020, 0x20202020, 0x20202020, 0x20202020, 0x2020207f);
        is("127 is the twentieth", x.land(), fault(19, 0));
        x.feed(0x20202020, 0x20202020, 0x202020ff, 0, 0);
        is("255 is the twelfth, not a part of those ahead", x.land(), fault(11, 0));
        x.feed(LOW, HIGH, -1, 0, 1);
        is("20 of the lowest and the highest", x.count(7), 20);
        is("128 is the first", x.land(), fault(0, 0));
        x.feed(0x20202020, 0xa0202020, 0, 0, 0);
        is("160 is no blank", x.land(), fault(4, 0));
    }

    // ---- 3: end ----

    @Edge(promise = 3, says = "The TAPE has its first n bytes alone: n")
    static void endAtEachEnd() {
        LetterThrough x = new LetterThrough();
        feedAll(x, "places 2;keep 0 9;;;");
        is("all 20", x.end(20), 20);
        is("20", x.count(7), 20);
        is("17", x.end(17), 17);
        is("its first 17", x.land(), 1);
        feedAll(x, "places 2;keep 0 9");
        is("1", x.end(1), 1);
        is("a p alone", x.land(), fault(0, 0));
        feedAll(x, "places 2");
        is("0", x.end(0), 0);
        is("nothing", x.land(), fault(0, 0));
        is("0 of none", x.end(0), 0);
    }

    @Edge(promise = 3, says = "has its first n bytes alone")
    static void feedBehindEnd() {
        LetterThrough x = new LetterThrough();
        feedAll(x, "places 2;keep 0 9");
        x.end(8);
        feedAll(x, ";keep 1 5");
        is("two texts are one", x.land(), 1);
        is("KEEPER of 0", x.place(0, 0), 16);
        is("KEEPER of 1", x.place(1, 0), 5);
    }

    @Edge(promise = 3, says = "NONE, and nothing happens, if it has not so many")
    static void endBeyond() {
        LetterThrough x = new LetterThrough();
        none("1 of none", x.end(1));
        feedAll(x, "places 2;keep 0 9;;;");
        none("21", x.end(21));
        none("400", x.end(400));
        none("401", x.end(401));
        none("the highest", x.end(HIGH));
        is("20 as before", x.count(7), 20);
        x.end(17);
        none("18, which it had", x.end(18));
        is("17 as before", x.count(7), 17);
        is("the text as before", x.land(), 1);
    }

    @Edge(promise = 3, says = "or n is below 0")
    static void endBelow() {
        LetterThrough x = new LetterThrough();
        none("-1 of none", x.end(-1));
        feedAll(x, "places 2;keep 0 9");
        none("-1", x.end(-1));
        none("the lowest", x.end(LOW));
        is("17 as before", x.count(7), 17);
        is("the text as before", x.land(), 1);
    }

    // ---- 4: land, what it does ----

    @Edge(promise = 4, says = "The TAPE, which is empty then")
    static void tapeIsEmptyThen() {
        LetterThrough x = on(TRIANGLE);
        is("after a LAND", x.count(7), 0);
        none("no byte is left", x.end(1));
        is("of an empty TAPE", x.land(), fault(0, 0));
        is("after a FAULT", tell(x, "places 1"), fault(7, 1));
        is("bytes", x.count(7), 0);
        none("no byte is left", x.end(1));
        is("the next text begins anew", tell(x, "places 3"), 0);
    }

    @Edge(promise = 4, says = "is the LAND (MENDINGS and LETTERS go)")
    static void mendingsAndLettersGo() {
        LetterThrough x = on(TRIANGLE);
        x.mending(2, 5, 16);
        x.letter(0, 1, false);
        is("the same LAND once more", tell(x, TRIANGLE), 3);
        is("MENDINGS", x.count(4), 0);
        is("LETTERS", x.count(5), 0);
        is("nothing mends", x.mend(99), 2176);
        is("nothing is known", x.thought(0, 1), 4096);
        is("the next MENDING is the first", x.mending(0, 5, 16), 0);
        is("so is the next LETTER", x.letter(0, 1, true), 0);
    }

    @Edge(promise = 4, says = "is the LAND")
    static void nothingStaysOfTheLandAhead() {
        for (String before : LANDS) {
            for (String after : LANDS) {
                LetterThrough x = on(before);
                x.mending(0, 3, 16);
                x.letter(0, 1, false);
                answers(x);
                tell(x, after);
                same("[" + after + "] after [" + before + "]", answers(x), answers(on(after)));
            }
        }
    }

    @Edge(promise = 4, says = "through all without")
    static void throughGoesToo() {
        LetterThrough x = on("places 2;through days 7 1 0");
        is("days", x.count(6), 3);
        is("another LAND", tell(x, "places 2"), 0);
        is("all", x.count(6), 1);
    }

    @Edge(promise = 4, says = "-2 - its FAULT (then that one stays, and they do)")
    static void refusedLandChangesNothing() {
        LetterThrough x = on(KEPT);
        x.mending(0, 1, 16);
        is("no MENDING of a LINE of 16", x.count(4), 0);
        tell(x, TRIANGLE);
        x.mending(2, 5, 16);
        x.letter(0, 2, true);
        is("mend", x.mend(5), 4096);
        String late = "places 2;line 1 0 3 one days 4;keep 0 4;cause 3 place 0;through one 1 1";
        is("a text that goes wrong late", tell(x, late), fault(late.length() - 1, 1));
        is("PLACES", x.count(0), 3);
        is("LINES", x.count(1), 3);
        is("KEEPERS", x.count(2), 0);
        is("CAUSES", x.count(3), 0);
        is("WHAT", x.count(6), 0);
        is("A", x.line(0, 0), 0);
        is("CHANCE of LINE 0", x.line(0, 2), 8);
        is("both ways", x.line(0, 3), 1);
        is("CHANCE", x.chance(0), 2176);
        is("MENDINGS", x.count(4), 1);
        is("LETTERS", x.count(5), 1);
        is("mended", x.mended(1), 5);
        is("mend", x.mend(5), 4096);
        is("thought", x.thought(2, 1), 2176);
    }

    @Edge(promise = 4, says = "-2 - its FAULT")
    static void leastAndGreatestFault() {
        is("FAULT 1", tell(new LetterThrough(), ""), -3);
        is("FAULT 3201, behind 400 bytes", tell(new LetterThrough(), filled("places 2;", 400)), -3203);
        is("a FAULT in the last of 400 bytes", tell(new LetterThrough(), filled("places 2", 399) + "x"), fault(399, 0));
    }

    @Edge(promise = 4, says = "THINGS are LINES, then KEEPERS in the order told, then CAUSES: numbered so from 0 on, M of them, 15 at most.")
    static void noneToFifteenThings() {
        taken("places 2", 0);
        taken("places 2;through all", 0);
        taken("places 2;keep 1 4", 1);
        taken(FIFTEEN_THINGS, 15);
        LetterThrough x = taken("places 3;keep 2 5;cause 7 place 0;keep 0 6;line 0 1 4", 4);
        int[] chances = {4, 5, 6, 7};
        for (int t = 0; t < 4; t++) {
            is("CHANCE of THING " + t, x.matters(t, 2), chances[t]);
        }
    }

    // ---- 4: land, what a text is made of ----

    @Edge(promise = 4, says = "a text of at most 400 bytes")
    static void textOf400Bytes() {
        String text = TWELVE_LINES + ";through one 0 1";
        taken(filled(text, 400), 12);
        String behind = repeat("places 2", " ", 400 - 8 - 9) + ";keep 1 4";
        is("its length", behind.length(), 400);
        is("the last bytes count", taken(behind, 1).place(1, 0), 4);
    }

    @Edge(promise = 4, says = "CLAUSE { ; CLAUSE }")
    static void clausesBetweenSemicolons() {
        taken("places 2", 0);
        refused("^;places 2", 0);
        refused("places 2;^", 0);
        refused("places 2;^;keep 0 1", 0);
        refused("places 2;keep 0 1;^", 0);
        refused("places 2 ^keep 0 1", 0);
        refused("places 2;keep 0 1 ^keep 1 1", 0);
        refused("places 2;through all ^keep 1 1", 0);
    }

    @Edge(promise = 4, says = "places N (2 to 10;")
    static void placesTwoToTen() {
        is("2", taken("places 2", 0).count(0), 2);
        is("10", taken("places 10", 0).count(0), 10);
        refused("places ^0", 1);
        refused("places ^1", 1);
        refused("places ^11", 1);
        refused("places ^99", 1);
    }

    @Edge(promise = 4, says = "PLACES are 0 to N - 1")
    static void placesByNumber() {
        taken("places 2;line 0 1 8;line 1 0 8;keep 0 1;keep 1 1;cause 1 place 0 place 1", 5);
        taken("places 10;line 9 0 8;keep 9 1;cause 1 place 9;through one 9 0", 3);
        refused("places 2;line ^2 0 8", 1);
        refused("places 2;line 0 ^2 8", 1);
        refused("places 9;keep ^9 1", 1);
        refused("places 9;cause 1 place ^9", 1);
        refused("places 9;through one ^9 0", 1);
        refused("places 9;through one 0 ^9", 1);
        refused("places 9;through some 1 ^9", 1);
        refused("places 9;through days 1 ^9 0", 1);
        refused("places 9;through days 1 0 ^9", 1);
        refused("places 9;through two ^9 0", 1);
        refused("places 9;through two 0 ^9", 1);
        refused("places 10;line ^10 0 8", 1);
    }

    @Edge(promise = 4, says = "LINES are numbered 0, 1, .. as they are told.")
    static void linesByNumber() {
        LetterThrough x = taken("places 5;keep 0 9;line 0 1 3;cause 2 place 0;line 0 2 5;through all;line 0 3 7", 5);
        int[] chances = {3, 5, 7};
        for (int k = 0; k < 3; k++) {
            is("CHANCE of LINE " + k, x.line(k, 2), chances[k]);
        }
        none("LINE 3", x.line(3, 2));
        LetterThrough twelve = taken(repeat("places 2", ";line 0 1 1", 11) + ";line 1 0 9", 12);
        is("LINE 11", twelve.line(11, 2), 9);
        none("LINE 12", twelve.line(12, 2));
    }

    @Edge(promise = 4, says = "from PLACE A to another one B")
    static void lineToAnotherPlace() {
        refused("places 2;line 0 ^0 8", 1);
        refused("places 2;line 1 ^1 8", 1);
        refused("places 2;line 1 ^01 8", 1);
        refused("places 10;line 9 ^9 8", 1);
        taken("places 10;line 9 8 8", 1);
    }

    @Edge(promise = 4, says = "CHANCE C 0 to 16; both ways, but for one")
    static void chanceOfLine() {
        is("0", taken("places 2;line 0 1 0", 1).line(0, 2), 0);
        is("16", taken("places 2;line 0 1 16", 1).line(0, 2), 16);
        refused("places 2;line 0 1 ^17", 1);
        refused("places 2;line 0 1 ^99 one", 1);
        refused("places 2;line 0 1 ^-1", 0);
        is("both ways", taken("places 2;line 0 1 16", 1).line(0, 3), 1);
        is("one way", taken("places 2;line 0 1 16 one", 1).line(0, 3), 0);
    }

    @Edge(promise = 4, says = "DAYS D 1 to 9, 1 without")
    static void daysOfLine() {
        is("without", taken("places 2;line 0 1 8", 1).line(0, 4), 1);
        is("without, one way", taken("places 2;line 0 1 8 one", 1).line(0, 4), 1);
        is("1", taken("places 2;line 0 1 8 days 1", 1).line(0, 4), 1);
        is("9", taken("places 2;line 0 1 8 days 9", 1).line(0, 4), 9);
        is("09", taken("places 2;line 0 1 8 days 09", 1).line(0, 4), 9);
        refused("places 2;line 0 1 8 days ^0", 1);
        refused("places 2;line 0 1 8 days ^10", 1);
        refused("places 2;line 0 1 8 days ^99", 1);
        refused("places 2;line 0 1 8 days^", 0);
        refused("places 2;line 0 1 8 days ^one", 0);
        is("of the LINE ahead nothing stays", taken("places 2;line 0 1 8 one days 9;line 0 1 8", 2).line(1, 4), 1);
        is("nor that it is one", taken("places 2;line 0 1 8 one days 9;line 0 1 8", 2).line(1, 3), 1);
    }

    @Edge(promise = 4, says = "one, days once at most")
    static void oneAndDaysOnce() {
        taken("places 2;line 0 1 8 one days 2", 1);
        taken("places 2;line 0 1 8 days 2 one", 1);
        refused("places 2;line 0 1 8 one ^one", 0);
        refused("places 2;line 0 1 8 days 2 ^days 2", 0);
        refused("places 2;line 0 1 8 one days 2 ^one", 0);
        refused("places 2;line 0 1 8 days 1 one ^days 1", 0);
        taken("places 2;line 0 1 8 one;line 0 1 8 one", 2);
    }

    @Edge(promise = 4, says = "keep P C (a KEEPER of PLACE P, CHANCE C; of each PLACE once at most)")
    static void keeperOfEachPlaceOnce() {
        LetterThrough x = taken("places 10;keep 9 0;keep 8 16;keep 7 1;keep 6 1;keep 5 1;keep 4 1;keep 3 1;keep 2 1;keep 1 1;keep 0 1", 10);
        is("0", x.place(9, 0), 0);
        is("16", x.place(8, 0), 16);
        refused("places 10;keep 9 ^17", 1);
        refused("places 10;keep 9 8 ^8", 0);
        refused("places 10;keep 9^", 0);
        refused("places 10;keep^", 0);
        refused("places 10;keep 9 8;keep ^9 8", 2);
    }

    @Edge(promise = 4, says = "cause C ITEM { ITEM } (CHANCE C 0 to 16 that it stays away)")
    static void causeOfOneItemOrMore() {
        is("0", taken("places 2;cause 0 place 1", 1).matters(0, 2), 0);
        is("16", taken("places 2;cause 16 place 1", 1).matters(0, 2), 16);
        refused("places 2;cause ^17 place 1", 1);
        refused("places 2;cause 8^", 0);
        refused("places 2;cause 8^;keep 0 1", 0);
        refused("places 2;cause ^place 1", 0);
        refused("places 2;cause 8 ^1", 0);
        refused("places 2;cause 8 place 1 ^1", 0);
        refused("places 2;cause 8 place 1 ^one", 0);
        refused("places 2;cause 8 place 1 place^", 0);
        LetterThrough x = taken("places 3;line 0 1 1;cause 1 place 0 line 0 place 1 place 2 line 0", 2);
        is("LINE 0", x.line(0, 5), 1);
        is("PLACE 0", x.place(0, 2), 1);
        is("PLACE 2", x.place(2, 2), 1);
    }

    @Edge(promise = 4, says = "line K (told ahead in the text)")
    static void itemIsLineToldAhead() {
        refused("places 2;cause 8 line ^0", 1);
        refused("places 2;cause 8 line ^0;line 0 1 8", 1);
        taken("places 2;line 0 1 8;cause 8 line 0", 2);
        refused("places 2;line 0 1 8;cause 8 line ^1;line 0 1 8", 1);
        refused("places 2;line 0 1 8;cause 8 line 0 line ^1", 1);
        String twelve = repeat("places 2", ";line 0 1 1", 12);
        taken(twelve + ";cause 8 line 11", 13);
        refused(twelve + ";cause 8 line ^12", 1);
        refused("places 2;line 0 1 8;cause 8 line^", 0);
    }

    @Edge(promise = 4, says = "through WHAT (once at most; through all without)")
    static void throughOnce() {
        is("without", taken("places 2", 0).count(6), 1);
        is("all", taken("places 2;through all", 0).count(6), 1);
        refused("places 2;through all;^through all", 2);
        refused("places 2;through^", 0);
        refused("places 2;through^;keep 0 1", 0);
        refused("places 2;through ^any", 0);
        refused("places 2;through ^1", 0);
        refused("places 2;through all ^0", 0);
        refused("places 2;through one 0 1 ^1", 0);
        refused("places 2;through one 0^", 0);
        refused("places 2;through some 1^", 0);
        refused("places 2;through days 1 0^", 0);
        refused("places 2;through two^", 0);
    }

    @Edge(promise = 4, says = "some K A (K 1 to N)")
    static void someOfOneToAll() {
        taken("places 2;through some 1 0", 0);
        taken("places 2;through some 2 1", 0);
        taken("places 10;through some 10 9", 0);
        refused("places 2;through some ^0 0", 1);
        refused("places 2;through some ^3 0", 1);
        refused("places 10;through some ^11 0", 1);
        refused("places 10;through some 10 9 ^1", 0);
    }

    @Edge(promise = 4, says = "days D A B (D 1 to 99)")
    static void throughDaysOneTo99() {
        taken("places 2;through days 1 0 1", 0);
        taken("places 2;through days 99 1 0", 0);
        refused("places 2;through days ^0 0 1", 1);
        refused("places 2;through days ^00 0 1", 1);
        refused("places 2;through days ^100 0 1", 1);
    }

    @Edge(promise = 4, says = "two A B (A and B unlike)")
    static void twoOfUnlikePlaces() {
        taken("places 2;through two 0 1", 0);
        taken("places 10;through two 9 8", 0);
        refused("places 2;through two 0 ^0", 1);
        refused("places 10;through two 9 ^9", 1);
    }

    @Edge(promise = 4, says = "NUMBERS have 1 or 2 digits")
    static void numbersOfOneOrTwoDigits() {
        taken("places 02;line 00 01 08 days 09;keep 01 00;cause 00 line 00 place 00;through days 01 01 00", 3);
        refused("places ^002", 1);
        refused("places 2;line ^000 1 8", 1);
        refused("places 2;line 0 ^001 8", 1);
        refused("places 2;line 0 1 ^008", 1);
        refused("places 2;line 0 1 8 days ^009", 1);
        refused("places 2;keep ^000 8", 1);
        refused("places 2;keep 0 ^008", 1);
        refused("places 2;cause ^008 place 0", 1);
        refused("places 2;cause 8 place ^000", 1);
        refused("places 2;line 0 1 8;cause 8 line ^000", 1);
        refused("places 2;through one ^000 1", 1);
        refused("places 2;through one 0 ^001", 1);
        refused("places 2;through some ^001 1", 1);
        refused("places 2;through days ^001 0 1", 1);
        refused("places 2;keep 0 ^4294967296", 1);
        refused("places 2;keep 0 ^18446744073709551616", 1);
    }

    @Edge(promise = 4, says = "1 or 2 digits (as far as digits go on)")
    static void numbersGoAsFarAsDigits() {
        is("01 8 is two NUMBERS", tell(new LetterThrough(), "places 10;line 01 8"), fault(19, 0));
        refused("places 2;line 0 ^18", 1);
        LetterThrough x = taken("places10;line0 1 8one days5;keep3 4;cause1line0place2place3;through some3 0", 3);
        is("days", x.line(0, 4), 5);
        is("some", x.count(6), 2);
        refused("places 2;line 0 1 8^/", 0);
        refused("places 2;line 0 1 8^:", 0);
        refused("places 2;line 0 1 8^.5", 0);
    }

    @Edge(promise = 4, says = "WORDS are small letters (as far as these go on)")
    static void wordsGoAsFarAsLetters() {
        refused("^place 2", 0);
        refused("^placess 2", 0);
        refused("^placesz 2", 0);
        refused("^placesa 2", 0);
        refused("^aplaces 2", 0);
        refused("^zlaces 2", 0);
        refused("^placez 2", 0);
        refused("^Places 2", 0);
        refused("places 2;^lin 0 1 8", 0);
        refused("places 2;^lines 0 1 8", 0);
        refused("places 2;^aline 0 1 8", 0);
        refused("places 2;^fine 0 1 8", 0);
        refused("places 2;^link 0 1 8", 0);
        refused("places 2;^LINE 0 1 8", 0);
        refused("places 2;^peep 0 8", 0);
        refused("places 2;^pause 8 place 0", 0);
        refused("places 2;^chrough all", 0);
        refused("places 2;line 0 1 8 ^ode", 0);
        refused("places 2;line 0 1 8 ^bays 3", 0);
        refused("places 2;through ^ill", 0);
        refused("places 2;through ^ona 0 1", 0);
        refused("places 2;through ^dome 1 0", 0);
        refused("places 2;through ^too 0 1", 0);
        refused("places 2;^keeper 0 8", 0);
        refused("places 2;^causes 8 place 0", 0);
        refused("places 2;^throughall", 0);
        refused("places 2;line 0 1 8 ^ones", 0);
        refused("places 2;line 0 1 8 ^onedays 3", 0);
        refused("places 2;line 0 1 8 ^day 3", 0);
        refused("places 2;cause 8 ^places 0", 0);
        refused("places 2;through ^alls", 0);
        refused("places 2;line^A 0 1 8", 0);
        refused("places 2;line^` 0 1 8", 0);
        refused("places 2;line^{ 0 1 8", 0);
        refused("places 2;keep 0 1^`", 0);
        refused("places 2;keep 0 1^{", 0);
    }

    @Edge(promise = 4, says = "blanks (32) stand between as one likes")
    static void blanksAsOneLikes() {
        taken("places2;line0 1 8days2one;keep0 8;cause8line0place1;through two0 1", 3);
        taken("   places   2   ;   line   0   1   8   days   2   one   ;   through   two   0   1   ", 1);
        refused("places 2^\t", 0);
        refused("places 2;^\nkeep 0 1", 0);
        refused("places 2;keep^\r0 1", 0);
        refused("places 2;keep 0^\0001", 0);
        refused("places 2;keep 0^\0371", 0);
        refused("places 2;keep 0^!1", 0);
        refused("places 2;keep 0^\u00a01", 0);
        refused("   ^", 0);
        refused("places   ^", 0);
    }

    // ---- 4: land, its FAULTS ----

    @Edge(promise = 4, says = "FAULTS, the first along the text")
    static void firstFaultAlongTheText() {
        refused("places ^1;places 2;line 0 0 17", 1);
        refused("places 2;line 0 ^0 17 one one", 1);
        refused("places 2;line ^2 2 17", 1);
        refused("places 2;keep 0 8;keep ^0 17", 2);
        refused("places 2;through all;^through one 0 0", 2);
        refused("places 2;cause ^17", 1);
        refused("places 3;through one ^5 5", 1);
        refused(FIFTEEN_THINGS + ";^keep 0 17", 3);
        refused(FIFTEEN_THINGS + ";through one 0 ^0;keep 3 1", 1);
    }

    @Edge(promise = 4, says = "1 + 8 * its place and: 0 a byte or WORD that can't stand there")
    static void byteOrWordThatCantStand() {
        refused("^2", 0);
        refused("places ^x", 0);
        refused("places 2 ^2", 0);
        refused("places 2 ^x", 0);
        refused("places 2;^3", 0);
        refused("places 2;line ^one 1 8", 0);
        refused("places 2;line 0 ^one 8", 0);
        refused("places 2;line 0 1^;keep 0 1", 0);
        refused("places 2;line 0 1 8 ^8", 0);
        refused("places 2;line 0 1 8 ^two", 0);
        refused("places 2;keep 0 1 ^one", 0);
        refused("places 2^\u00ff", 0);
        refused("^\u0080places 2", 0);
    }

    @Edge(promise = 4, says = "or the end (behind the last byte;")
    static void endBehindTheLastByte() {
        refused("^", 0);
        refused(" ^", 0);
        refused("places^", 0);
        refused("places ^", 0);
        refused("places 2;^", 0);
        refused("places 2; ^", 0);
        refused("places 2;line^", 0);
        refused("places 2;line 0^", 0);
        refused("places 2;line 0 1^", 0);
        refused("places 2;line 0 1  ^", 0);
        refused("places 2;line 0 1 8 days^", 0);
        refused("places 2;keep 0^", 0);
        refused("places 2;cause^", 0);
        refused("places 2;cause 1 place^", 0);
        refused("places 2;through days 1 0 ^", 0);
    }

    @Edge(promise = 4, says = "one or days told twice")
    static void oneOrDaysToldTwice() {
        refused("places 2;line 0 1 8 one   ^one;keep 9 9", 0);
        refused("places 2;line 0 1 8 days 3 one ^days", 0);
        refused("places 2;line 0 1 8 days 1 ^days 99", 0);
    }

    @Edge(promise = 4, says = "a CLAUSE that is no places first")
    static void firstClauseIsNoPlaces() {
        refused("^line 0 1 8;places 2", 0);
        refused("^keep 0 1;places 2", 0);
        refused("  ^cause 1 place 0", 0);
        refused("^through all", 0);
    }

    @Edge(promise = 4, says = "a second places, too")
    static void secondPlaces() {
        refused("places 2;^places 2", 0);
        refused("places 2;keep 0 1; ^places 99", 0);
        refused(FIFTEEN_THINGS + ";^places 2", 0);
    }

    @Edge(promise = 4, says = "1 a NUMBER of more digits, or not as told (of a LINE, a WHAT: B that is A, too)")
    static void numberNotAsTold() {
        refused("places ^100", 1);
        refused("places 2;line 1 ^1 8", 1);
        refused("places 2;through one 1 ^1", 1);
        refused("places 2;through days 5 1 ^1", 1);
        refused("places 2;through two 1 ^1", 1);
        refused("places 2;through one 1 ^01", 1);
    }

    @Edge(promise = 4, says = "2 a KEEPER told twice (at P)")
    static void keeperToldTwice() {
        refused("places 2;keep 1 8;keep ^1 8", 2);
        refused("places 2;keep 1 8;keep 0 8;keep   ^01 99", 2);
        refused("places 2;keep 1 8;keep ^1", 2);
        taken("places 2;keep 1 8;keep 0 8", 2);
    }

    @Edge(promise = 4, says = "a second through (at it)")
    static void secondThrough() {
        refused("places 2;through one 0 1;^through one 0 1", 2);
        refused("places 2;through all;keep 0 1;  ^through", 2);
        refused(FIFTEEN_THINGS + ";through all;^through all", 2);
    }

    @Edge(promise = 4, says = "3 a thirteenth LINE")
    static void thirteenthLine() {
        taken(TWELVE_LINES, 12);
        refused(TWELVE_LINES + ";^line 0 1 1", 3);
        refused(TWELVE_LINES + ";keep 0 1;^line 0 1 1", 3);
    }

    @Edge(promise = 4, says = "a fourth CAUSE")
    static void fourthCause() {
        taken(THREE_CAUSES, 3);
        refused(THREE_CAUSES + ";^cause 1 place 0", 3);
        refused(THREE_CAUSES + ";line 0 1 1;^cause 1 line 0", 3);
    }

    @Edge(promise = 4, says = "a sixteenth THING")
    static void sixteenthThing() {
        taken(FIFTEEN_THINGS, 15);
        refused(FIFTEEN_THINGS + ";^keep 3 1", 3);
        refused(FIFTEEN_THINGS + ";^cause 1 place 0", 3);
        StringBuilder keepers = new StringBuilder("places 10");
        for (int p = 0; p < 10; p++) {
            keepers.append(";keep ").append(p).append(" 1");
        }
        String all = keepers + ";line 0 1 1;line 0 1 1;line 0 1 1;line 0 1 1;line 0 1 1";
        taken(all, 15);
        refused(all + ";^line 0 1 1", 3);
        is("no THING more is told by through", taken(all + ";through two 0 1", 15).count(6), 4);
    }

    @Edge(promise = 4, says = "(at the CLAUSE's first byte)")
    static void tooManyAtTheFirstByte() {
        refused(TWELVE_LINES + ";   ^line 0 1 1", 3);
        refused(TWELVE_LINES + ";^line", 3);
        refused(THREE_CAUSES + " ; ^cause 99", 3);
        refused(FIFTEEN_THINGS + ";  ^keep 99 99", 3);
    }

    @Edge(promise = 4, says = "Of one place the least.")
    static void leastFaultOfOnePlace() {
        refused("places 2;keep 0 8;keep ^000 9", 1);
        refused("places 2;line 0 ^000 8", 1);
        refused(FIFTEEN_THINGS + ";^lines 0 1 1", 0);
    }

    // ---- 5: line ----

    @Edge(promise = 5, says = "Of LINE k what 0: A, 1: B, 2: CHANCE, 3: 1 if both ways, else 0, 4: DAYS")
    static void firstAndLastLine() {
        LetterThrough x = on(repeat("places 10;line 9 0 0 one days 9", ";line 0 1 1", 10) + ";line 8 9 16");
        int[] first = {9, 0, 0, 0, 9, 0};
        int[] last = {8, 9, 16, 1, 1, 0};
        for (int what = 0; what < 6; what++) {
            is("of LINE 0, " + what, x.line(0, what), first[what]);
            is("of LINE 11, " + what, x.line(11, what), last[what]);
        }
    }

    @Edge(promise = 5, says = "5: CAUSES that name it (bits)")
    static void causesThatNameLine() {
        LetterThrough x = on("places 3;line 0 1 8;line 0 2 8;line 1 2 8;cause 1 line 2 line 0 line 2;cause 1 place 1 line 2;cause 1 line 2");
        is("one", x.line(0, 5), 1);
        is("none, be a PLACE of its number named", x.line(1, 5), 0);
        is("all three", x.line(2, 5), 7);
    }

    @Edge(promise = 5, says = "NONE without it")
    static void noSuchLine() {
        int[] none = {LOW, -1, 3, 12, 13, HIGH};
        LetterThrough x = on(TRIANGLE);
        LetterThrough fresh = new LetterThrough();
        for (int what = 0; what < 6; what++) {
            for (int k : none) {
                none("line " + k + " " + what, x.line(k, what));
            }
            none("of no LINES", fresh.line(0, what));
        }
        tell(x, "places 2;line 0 1 3");
        none("a LINE of the LAND ahead", x.line(1, 0));
        none("with room for more", on(repeat("places 2", ";line 0 1 1", 12)).line(12, 0));
    }

    @Edge(promise = 5, says = "or for another what")
    static void noSuchWhatOfLine() {
        LetterThrough x = on(TRIANGLE);
        for (int what : new int[] {LOW, -1, 6, HIGH}) {
            none("line 0 " + what, x.line(0, what));
            none("line 9 " + what, x.line(9, what));
        }
    }

    // ---- 6: place ----

    @Edge(promise = 6, says = "Of PLACE p what 0: CHANCE of its KEEPER (16: none)")
    static void chanceOfKeeper() {
        LetterThrough x = on("places 4;keep 3 0;keep 0 16;keep 1 7");
        is("16", x.place(0, 0), 16);
        is("7", x.place(1, 0), 7);
        is("none", x.place(2, 0), 16);
        is("0", x.place(3, 0), 0);
    }

    @Edge(promise = 6, says = "1: the THING that its KEEPER is (NONE)")
    static void thingThatKeeperIs() {
        LetterThrough x = on("places 4;keep 3 0;line 0 1 8;keep 0 16;line 0 1 8");
        is("told first, behind the LINES", x.place(3, 1), 2);
        is("told second", x.place(0, 1), 3);
        none("none", x.place(1, 1));
        is("THING 0", on("places 2;keep 1 8").place(1, 1), 0);
        is("THING 14", on(FIFTEEN_THINGS).place(2, 1), 14);
    }

    @Edge(promise = 6, says = "2: CAUSES that name it (bits)")
    static void causesThatNamePlace() {
        LetterThrough x = on("places 10;line 0 1 8;cause 1 place 9;cause 1 line 0 place 9;cause 1 place 8 place 9 place 8");
        is("none, be a LINE of its number named", x.place(0, 2), 0);
        is("the third", x.place(8, 2), 4);
        is("all", x.place(9, 2), 7);
    }

    @Edge(promise = 6, says = "NONE without it")
    static void noSuchPlace() {
        LetterThrough x = on("places 9;keep 8 3");
        for (int what = 0; what < 3; what++) {
            for (int p : new int[] {LOW, -1, 9, 10, HIGH}) {
                none("place " + p + " " + what, x.place(p, what));
            }
        }
        is("8", x.place(8, 0), 3);
        tell(x, "places 2");
        none("a PLACE of the LAND ahead", x.place(2, 0));
        none("10 of 10", on("places 10").place(10, 0));
    }

    @Edge(promise = 6, says = "or for another what")
    static void noSuchWhatOfPlace() {
        LetterThrough x = on("places 2;keep 1 3");
        for (int what : new int[] {LOW, -1, 3, HIGH}) {
            none("place 1 " + what, x.place(1, what));
            none("place 2 " + what, x.place(2, what));
        }
    }
}
