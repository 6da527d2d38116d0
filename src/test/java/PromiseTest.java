/** What each promise says, by hand: ordinary inputs, the edges the document names, and wrong inputs. */
public final class PromiseTest extends Checks {
    private static void promise(String name) {
        about = name;
    }

    public static void main(String[] args) {
        newObject();
        tape();
        landRight();
        landFaults();
        landCounts();
        linesAndPlaces();
        through();
        throughDays();
        throughTwo();
        chances();
        matters();
        ways();
        waysMany();
        ends();
        rows();
        mendings();
        mendingLimits();
        newLines();
        plans();
        causes();
        letters();
        days();
        draws();
        joined();
        aloneAndAlike();
        trees();
        looks();
        differ();
        images();
        wrongEverywhere();
        System.out.println(passed + " passed, " + failed + " failed");
        if (failed != 0) {
            System.exit(1);
        }
    }

    private static void newObject() {
        promise("1 a new object");
        LetterThrough x = new LetterThrough();
        is("NONE", LetterThrough.NONE, -1);
        int[] counts = {2, 0, 0, 0, 0, 0, 1, 0};
        for (int i = 0; i < 8; i++) {
            is("count " + i, x.count(i), counts[i]);
        }
        is("chance 0", x.chance(0), 0);
        is("chance 1", x.chance(1), 1);
        is("so 0", x.so(0), 0);
        is("so 1", x.so(1), -1);
        is("most", x.most(), -1);
        is("useless", x.useless(), 0);
        is("ways", x.ways(false), 0);
        is("cuts: nothing need fall", x.ways(true), 1);
        is("cut 0", x.way(true, 0), 0);
        is("ends", x.ends(60, 1), 0);
        is("ends of no cut", x.ends(0, 1), 1);
        is("row 0", x.row(0), 0);
        is("mend", x.mend(0), 0);
        is("plan 0", x.plan(0), 0);
        is("plan 1", x.plan(1), -2);
        is("judge", x.judge(0), 0);
        is("look", x.look(), -1);
        is("even", x.even(), 1);
        is("trees", x.trees(), 0);
        is("looks", x.looks(0), 0);
        is("no look", x.looks(1), -1);
        is("alone", x.alone(1), 1);
        is("alike", x.alike(8), 0);
        is("add", x.add(5, 0), 5);
        is("draw", x.draw(0, 1), 0);
        is("soon", x.soon(0, 1, 1), -2);
    }

    private static void tape() {
        promise("2 feed");
        LetterThrough x = new LetterThrough();
        for (int i = 1; i <= 20; i++) {
            is("feed", x.feed(i, 0, 0, 0, 0), 20 * i);
        }
        is("no more than 400", x.feed(1, 1, 1, 1, 1), -1);
        is("none came", x.count(7), 400);
        promise("3 end");
        is("one more than there are", x.end(401), -1);
        is("below 0", x.end(-1), -1);
        is("lowest", x.end(LOW), -1);
        is("as before", x.count(7), 400);
        is("all", x.end(400), 400);
        is("381", x.end(381), 381);
        is("381 and 20 are too many", x.feed(0, 0, 0, 0, 0), -1);
        is("380", x.end(380), 380);
        is("380 and 20", x.feed(0, 0, 0, 0, 0), 400);
        is("0", x.end(0), 0);
        is("1 of none", x.end(1), -1);
        // "places 2" by its numbers, the highest byte first
        is("feed", x.feed(0x706c6163, 0x65732032, 0x3b6b6565, 0x70203120, 0x39ffffff), 20);
        is("end", x.end(17), 17);
        is("land", x.land(), 1);
        is("keeper", x.place(1, 0), 9);
        is("bytes above 127", tell(x, "places 2\u00e9"), fault(8, 0));
    }

    private static void landRight() {
        promise("4 land");
        LetterThrough x = new LetterThrough();
        is("triangle", tell(x, TRIANGLE), 3);
        is("tape is empty", x.count(7), 0);
        is("kept", tell(x, KEPT), 3);
        is("blanks as one likes", tell(x, "  places  2 ;  line 0   1 8  days 3   one ;through   one 1 0  "), 1);
        is("days", x.line(0, 4), 3);
        is("one", x.line(0, 3), 0);
        is("no blanks where none are needed", tell(x, "places3;line0 1 8one days5;keep2 4;cause7line0place1;through some2 0"), 3);
        is("what", x.count(6), 2);
        is("days", x.line(0, 4), 5);
        is("two digits", tell(x, "places 02;line 00 01 08 days 09;through days 09 01 00"), 1);
        is("from", x.line(0, 0), 0);
        is("chance", x.line(0, 2), 8);
        is("ten places", tell(x, "places 10;line 9 0 16"), 1);
        is("an item twice", tell(x, "places 2;cause 4 place 0 place 0"), 1);
        is("no item is to be told but a line", tell(x, "places 2;cause 4 place 0;keep 0 3"), 2);
        String[] kinds = {"one 0 1", "all", "some 2 0", "days 99 0 1", "two 1 0"};
        for (int i = 0; i < kinds.length; i++) {
            is(kinds[i], tell(x, "places 2;through " + kinds[i]), 0);
            is("what " + kinds[i], x.count(6), i);
        }
        String full = repeat("places 2", ";line 0 1 1", 12);
        is("400 bytes", tell(x, full + " ".repeat(400 - full.length())), 12);
        x.mending(0, 1, 16);
        x.letter(0, 1, true);
        x.mend(1);
        is("a fault", tell(x, "places 2;line 0"), fault(15, 0));
        is("the tape is empty", x.count(7), 0);
        is("the land stays", x.count(1), 12);
        is("mendings stay", x.count(4), 1);
        is("letters stay", x.count(5), 1);
        is("mended stays", x.mended(1), 1);
        is("another land", tell(x, "places 2"), 0);
        is("mendings go", x.count(4), 0);
        is("letters go", x.count(5), 0);
        is("through all again", x.count(6), 1);
    }

    private static void landFaults() {
        promise("4 land, faults");
        LetterThrough x = on(TRIANGLE);
        Object[][] texts = {
            {"", 0, 0}, {"   ", 3, 0}, {"place 2", 0, 0}, {"placesx 2", 0, 0}, {"places", 6, 0}, {" places ", 8, 0},
            {"line 0 1 8", 0, 0}, {";places 2", 0, 0}, {"Places 2", 0, 0}, {"2", 0, 0},
            {"places 1", 7, 1}, {"places 11", 7, 1}, {"places 123", 7, 1}, {"places 002", 7, 1}, {"places x", 7, 0},
            {"places 2;", 9, 0}, {"places 2; ", 10, 0}, {"places 2;;", 9, 0}, {"places 2 x", 9, 0}, {"places 2 3", 9, 0},
            {"places 2;places 2", 9, 0}, {"places 2;3", 9, 0}, {"places 2;lines 0 1 8", 9, 0}, {"places 2\0", 8, 0},
            {"placesz 2", 0, 0}, {"places 2;linez 0 1 8", 9, 0}, {"places 2;aline 0 1 8", 9, 0}, {"places 2;lin 0 1 8", 9, 0},
            {"places 2;line 0 1 8`", 19, 0}, {"places 2;line 0 1 8{", 19, 0}, {"places 2;line 0 1 8/", 19, 0}, {"places 2;line 0 1 8:", 19, 0},
            {"places 2;line 0 0 8", 16, 1}, {"places 2;line 0 2 8", 16, 1}, {"places 2;line 2 0 8", 14, 1},
            {"places 2;line 0 1 17", 18, 1}, {"places 2;line 0 1", 17, 0}, {"places 2;line 0 1;", 17, 0},
            {"places 2;line 0 1 100", 18, 1}, {"places 2;line 0 1 8 8", 20, 0}, {"places 2;line 0 1 8 two", 20, 0},
            {"places 2;line 0 1 8 one one", 24, 0}, {"places 2;line 0 1 8 days 2 days 2", 27, 0},
            {"places 2;line 0 1 8 days 2 one days 3", 31, 0}, {"places 2;line 0 1 8 days 0", 25, 1},
            {"places 2;line 0 1 8 days 10", 25, 1}, {"places 2;line 0 1 8 days one", 25, 0},
            {"places 2;line 0 1 8 days", 24, 0}, {"places 2;line one 1 8", 14, 0}, {"places 2;line 0 1 -8", 18, 0},
            {"places 2;keep 0 8;keep 0 9", 23, 2}, {"places 2;keep 0 8;keep 00 99", 23, 2}, {"places 2;keep 2 8", 14, 1},
            {"places 2;keep 0 8;keep 000 9", 23, 1}, {"places 2;keep 0 17", 16, 1}, {"places 2;keep 0", 15, 0},
            {"places 2;keep 0 8 8", 18, 0}, {"places 2;keep 0 8 one", 18, 0},
            {"places 2;cause 8", 16, 0}, {"places 2;cause 8;", 16, 0}, {"places 2;cause 17 place 0", 15, 1},
            {"places 2;cause 8 line 0", 22, 1}, {"places 2;line 0 1 8;cause 8 line 1;line 0 1 8", 33, 1},
            {"places 2;cause 8 place 2", 23, 1}, {"places 2;cause 8 place", 22, 0}, {"places 2;cause 8 keep 0", 17, 0},
            {"places 2;cause 8 place 0 1", 25, 0}, {"places 2;cause 8 place 0 x", 25, 0}, {"places 2;cause place 0", 15, 0},
            {"places 2;through two 0 0", 23, 1}, {"places 2;through one 1 1", 23, 1}, {"places 2;through days 5 1 1", 26, 1},
            {"places 2;through one 2 1", 21, 1}, {"places 2;through days 0 0 1", 22, 1}, {"places 2;through days 100 0 1", 22, 1},
            {"places 2;through some 3 0", 22, 1}, {"places 2;through some 0 0", 22, 1}, {"places 2;through some 1 2", 24, 1},
            {"places 2;through all;through all", 21, 2}, {"places 2;through all;through", 21, 2},
            {"places 2;through any", 17, 0}, {"places 2;through", 16, 0}, {"places 2;through all 0", 21, 0},
            {"places 2;through one 0 1 2", 25, 0}, {"places 2;through one 0 1 one", 25, 0}, {"places 2;throughall", 9, 0},
            {"places 3;through one 5 5", 21, 1}, {"places 2;keep 5 5;places 2", 14, 1},
        };
        for (Object[] t : texts) {
            is("[" + t[0] + "]", tell(x, (String) t[0]), fault((Integer) t[1], (Integer) t[2]));
        }
        is("the land stays", x.chance(0), 2176);
    }

    private static void landCounts() {
        promise("4 land, too many");
        LetterThrough x = new LetterThrough();
        String lines = repeat("places 10", ";line 0 1 1", 12);
        is("12 lines", tell(x, lines), 12);
        is("a thirteenth line", tell(x, lines + ";line"), fault(lines.length() + 1, 3));
        is("a thirteenth line, as it is", tell(x, lines + "; line 0 1 1"), fault(lines.length() + 2, 3));
        String causes = repeat("places 10", ";cause 1 place 0", 3);
        is("3 causes", tell(x, causes), 3);
        is("a fourth cause", tell(x, causes + ";cause 99"), fault(causes.length() + 1, 3));
        String keeps = lines + ";keep 0 1;keep 1 1;keep 2 1";
        is("15 things", tell(x, keeps), 15);
        is("a sixteenth thing, a keeper", tell(x, keeps + ";keep 3 1"), fault(keeps.length() + 1, 3));
        is("a keeper told twice as a sixteenth", tell(x, keeps + ";keep 0 1"), fault(keeps.length() + 1, 3));
        is("a sixteenth thing, a cause", tell(x, keeps + ";cause 3 place 0"), fault(keeps.length() + 1, 3));
        is("through is no thing", tell(x, keeps + ";through all"), 15);
        StringBuilder mixed = new StringBuilder("places 10");
        for (int p = 0; p < 10; p++) {
            mixed.append(";keep ").append(p).append(" 1");
        }
        mixed.append(";line 0 1 1;line 0 1 1;cause 1 line 0;cause 1 line 0;cause 1 line 1");
        is("10 keepers, 2 lines, 3 causes", tell(x, mixed.toString()), 15);
        is("a sixteenth thing, a line", tell(x, mixed + ";line 0 1 1"), fault(mixed.length() + 1, 3));
    }

    private static void linesAndPlaces() {
        promise("5 line");
        LetterThrough x = on("places 3;line 0 1 8;line 2 1 13 one days 7;cause 1 line 1;cause 2 place 2 line 1 line 0;cause 3 place 2;keep 2 5;keep 0 0");
        int[] first = {0, 1, 8, 1, 1, 2};
        int[] second = {2, 1, 13, 0, 7, 3};
        for (int what = 0; what < 6; what++) {
            is("line 0 " + what, x.line(0, what), first[what]);
            is("line 1 " + what, x.line(1, what), second[what]);
        }
        is("no what", x.line(0, 6), -1);
        is("no what", x.line(0, -1), -1);
        is("no line", x.line(2, 0), -1);
        is("no line", x.line(-1, 0), -1);
        promise("6 place");
        int[][] places = {{0, 3, 0}, {16, -1, 0}, {5, 2, 6}};
        for (int p = 0; p < 3; p++) {
            for (int what = 0; what < 3; what++) {
                is("place " + p + " " + what, x.place(p, what), places[p][what]);
            }
        }
        is("no what", x.place(0, 3), -1);
        is("no what", x.place(0, -1), -1);
        is("no place", x.place(3, 0), -1);
        is("no place", x.place(-1, 0), -1);
        promise("40 count");
        int[] counts = {3, 2, 2, 3, 0, 0, 1, 0};
        for (int what = 0; what < 8; what++) {
            is("count " + what, x.count(what), counts[what]);
        }
        is("no what", x.count(8), -1);
        is("no what", x.count(-1), -1);
        x.feed(1, 2, 3, 4, 5);
        is("bytes", x.count(7), 20);
    }

    private static void soRow(LetterThrough x, String wants) {
        for (int s = 0; s < wants.length(); s++) {
            is("so " + s, x.so(s), wants.charAt(s) - '0');
        }
        is("bits beyond", x.so(wants.length()), -1);
    }

    private static void through() {
        promise("7 so");
        LetterThrough x = on(TRIANGLE);
        soRow(x, "00011111");
        is("below 0", x.so(-1), -1);
        is("lowest", x.so(LOW), -1);
        // things: line, keeper, cause; all of them are needed
        soRow(on(KEPT), "00000001");
        // one way only
        soRow(on("places 2;line 0 1 8 one;through one 1 0"), "00");
        soRow(on("places 2;line 0 1 8 one;through one 0 1"), "01");
        // all: there and back
        soRow(on("places 2;line 0 1 8 one;line 1 0 8 one"), "0001");
        soRow(on("places 2;line 0 1 8 one;line 1 0 8"), "0011");
        soRow(on("places 3;line 0 1 8 one;line 1 2 8 one;line 2 0 8 one"), "00000001");
        // a place that falls is missing for all, but not for others
        soRow(on("places 3;line 0 1 8;line 1 2 8;keep 2 4;through all"), "00000001");
        soRow(on("places 3;line 0 1 8;line 1 2 8;keep 2 4;through one 0 1"), "01010101");
        // a place on the way that falls
        soRow(on("places 3;line 0 1 8;line 1 2 8;keep 1 4;through one 0 2"), "00000001");
        // ends that do not stand
        soRow(on("places 2;line 0 1 8;keep 0 4;through one 0 1"), "0001");
        // some: the place itself is one
        soRow(on("places 2;line 0 1 8;through some 1 0"), "11");
        soRow(on("places 2;line 0 1 8;keep 0 3;through some 1 0"), "0011");
        soRow(on("places 2;line 0 1 8;cause 3 place 0;through some 1 0"), "0011");
        soRow(on("places 2;line 0 1 8 one;through some 2 1"), "00");
        soRow(on("places 3;line 0 1 8;line 0 2 8;through some 2 0"), "0111");
        soRow(on("places 3;line 0 1 8;line 0 2 8;through some 3 1"), "0001");
        // a cause fells several at once
        soRow(on("places 3;line 0 1 8;line 0 2 8;cause 3 line 0 line 1;through some 2 0"), "00000111");
        soRow(on("places 3;line 0 1 8;line 0 2 8;cause 3 line 0;through some 2 0"), "00110111");
        soRow(on("places 3;line 0 1 8;cause 3 place 2;through one 0 1"), "0101");
    }

    private static void throughDays() {
        promise("7 so, days");
        String land = "places 3;line 0 1 8;line 1 2 12;line 0 2 4 days 3;through days ";
        soRow(on(land + "1 0 2"), "00000000");
        soRow(on(land + "2 0 2"), "00010001");
        soRow(on(land + "3 0 2"), "00011111");
        soRow(on(land + "99 0 2"), "00011111");
        soRow(on("places 2;line 0 1 8 one days 9;line 1 0 8 days 8;through days 8 0 1"), "0011");
        soRow(on("places 2;line 0 1 8;keep 1 4;through days 1 0 1"), "0001");
    }

    private static void throughTwo() {
        promise("7 so, two");
        soRow(on("places 2;line 0 1 8;line 1 0 16;through two 0 1"), "0001");
        soRow(on("places 2;line 0 1 8;line 1 0 16 one;through two 0 1"), "0000");
        soRow(on("places 3;line 0 1 8;line 1 2 8;line 0 2 8;through two 0 2"), "00000001");
        // two ways may share a place: 0 = 1 = 2 with double lines
        soRow(on("places 3;line 0 1 8;line 0 1 8;line 1 2 8;line 1 2 8;through two 0 2"), "0000000000000001");
        // a bridge that both would need
        LetterThrough x = on("places 4;line 0 1 8;line 0 1 8;line 1 2 8;line 2 3 8;line 2 3 8;through two 0 3");
        is("by a bridge", x.so(31), 0);
        // the first way found may be the wrong one: 0-1-2-3 must be taken apart
        x = on("places 4;line 0 1 8;line 1 2 8;line 2 3 8;line 0 2 8;line 1 3 8;through two 0 3");
        is("all", x.so(31), 1);
        is("without the middle", x.so(29), 1);
        is("without a side", x.so(30), 0);
    }

    private static void chances() {
        promise("8 chance");
        LetterThrough x = on(TRIANGLE);
        is("chance", x.chance(0), 2176);
        is("over", x.chance(1), 4096);
        is("no what", x.chance(2), -1);
        is("no what", x.chance(-1), -1);
        is("kept", on(KEPT).chance(0), 1536);
        is("never", on("places 2;line 0 1 0;through one 0 1").chance(0), 0);
        is("always", on("places 2;line 0 1 16;through one 0 1").chance(0), 16);
        LetterThrough full = on(repeat("places 2", ";line 0 1 16", 12) + ";keep 0 16;keep 1 16;cause 16 line 0");
        is("15 sure things", full.chance(0), 1L << 60);
        is("over", full.chance(1), 1L << 60);
        is("plan of 16 sixteenths", full.plan(16), 1);
        is("soon", full.soon(0, 1, 16), 1);
        promise("9 sure");
        is("0 holds", x.sure(0, true), 208);
        is("0 fallen", x.sure(0, false), 64);
        is("1 holds", x.sure(1, true), 160);
        is("1 fallen", x.sure(1, false), 64);
        is("2 holds", x.sure(2, true), 256);
        is("2 fallen", x.sure(2, false), 96);
        is("no thing", x.sure(3, true), -1);
        is("no thing", x.sure(-1, true), -1);
        is("a line of chance 0 as sure", on("places 2;line 0 1 0;through one 0 1").sure(0, true), 1);
        is("a line of chance 16 fallen", on("places 2;line 0 1 16;through one 0 1").sure(0, false), 0);
        is("a keeper", on(KEPT).sure(1, true), 16 * 12);
        is("a cause", on(KEPT).sure(2, true), 16 * 8);
    }

    private static void matters() {
        promise("10 matters");
        LetterThrough x = on(TRIANGLE);
        int[][] wants = {{144, 1, 8}, {96, 1, 12}, {160, 3, 4}};
        for (int t = 0; t < 3; t++) {
            for (int what = 0; what < 3; what++) {
                is("matters " + t + " " + what, x.matters(t, what), wants[t][what]);
            }
        }
        is("no what", x.matters(0, 3), -1);
        is("no what", x.matters(0, -1), -1);
        is("no thing", x.matters(3, 0), -1);
        is("no thing", x.matters(-1, 0), -1);
        LetterThrough kept = on(KEPT);
        is("keeper's chance", kept.matters(1, 2), 8);
        is("cause's chance", kept.matters(2, 2), 12);
        promise("11 most");
        is("most", x.most(), 2);
        is("of several the least", on("places 2;line 0 1 8;line 0 1 8;through one 0 1").most(), 0);
        is("a keeper", kept.most(), 1);
        is("without chances the least", on("places 2;line 0 1 16;line 0 1 16;line 0 1 3;through one 0 1").most(), 0);
        is("no things", on("places 2").most(), -1);
        promise("12 useless");
        is("none", x.useless(), 0);
        is("a line aside", on("places 3;line 0 1 8;line 1 2 8;through one 0 1").useless(), 2);
        is("a keeper and a cause aside", on("places 3;line 0 1 8;keep 2 8;cause 3 place 2;through one 0 1").useless(), 6);
        is("never through", on("places 3;line 0 1 8;through one 0 2").useless(), 1);
        is("chance 0 is not useless", on("places 2;line 0 1 0;through one 0 1").useless(), 0);
    }

    private static void ways() {
        promise("13 ways");
        LetterThrough x = on(TRIANGLE);
        is("ways", x.ways(false), 2);
        is("cuts", x.ways(true), 2);
        promise("14 way");
        is("the more likely first", x.way(false, 0), 3);
        is("then", x.way(false, 1), 4);
        is("no more", x.way(false, 2), -1);
        is("below 0", x.way(false, -1), -1);
        is("cut 0", x.way(true, 0), 5);
        is("cut 1", x.way(true, 1), 6);
        is("no more", x.way(true, 2), -1);
        LetterThrough kept = on(KEPT);
        is("one way", kept.ways(false), 1);
        is("all in it", kept.way(false, 0), 7);
        is("three cuts", kept.ways(true), 3);
        is("keeper falls with 8", kept.way(true, 0), 2);
        is("cause with 4", kept.way(true, 1), 4);
        is("line with 0", kept.way(true, 2), 1);
        LetterThrough alike = on("places 2;line 0 1 8;line 0 1 8;line 0 1 8;through one 0 1");
        is("of several the least", alike.way(false, 0), 1);
        is("then", alike.way(false, 1), 2);
        is("one cut", alike.way(true, 0), 7);
        LetterThrough always = on("places 2;line 0 1 8;through some 1 0");
        is("the empty way", always.ways(false), 1);
        is("is empty", always.way(false, 0), 0);
        is("no cut", always.ways(true), 0);
        LetterThrough never = on("places 3;line 0 1 8;through one 0 2");
        is("no way", never.ways(false), 0);
        is("the empty cut", never.ways(true), 1);
        is("is empty", never.way(true, 0), 0);
    }

    /** Six pairs of lines between seven places: 64 ways, of which 60 are told. */
    private static void waysMany() {
        promise("14 way, more than 60");
        StringBuilder b = new StringBuilder("places 7");
        for (int p = 0; p < 6; p++) {
            b.append(";line ").append(p).append(' ').append(p + 1).append(" 9");
            b.append(";line ").append(p).append(' ').append(p + 1).append(" 4");
        }
        LetterThrough x = on(b + ";through one 0 6");
        is("64 ways", x.ways(false), 64);
        is("6 cuts", x.ways(true), 6);
        is("the best of all", x.way(false, 0), 0b010101010101);
        is("one other line", x.way(false, 1), 0b010101010110);
        is("the sixtieth is told", x.way(false, 59) != -1 ? 1 : 0, 1);
        is("no more are told", x.way(false, 60), -1);
        // 57 have two strong lines or more; of the six with one, the three least numbers are told
        is("the fifty-eighth", x.way(false, 57), 0b011010101010);
        is("the sixtieth", x.way(false, 59), 0b101001101010);
        is("cuts are alike", x.way(true, 5), 0b110000000000);
        is("ends of 60 are below the chance", x.ends(60, 0) < x.chance(0) ? 1 : 0, 1);
        is("ends of all cuts", x.ends(60, 1), x.chance(0));
    }

    private static void ends() {
        promise("15 ends");
        LetterThrough x = on(TRIANGLE);
        is("below 0", x.ends(0, 0), 0);
        is("below 1", x.ends(1, 0), 1536);
        is("below 2", x.ends(2, 0), 2176);
        is("below 60", x.ends(60, 0), 2176);
        is("above 0", x.ends(0, 1), 4096);
        is("above 1", x.ends(1, 1), 2560);
        is("above 2", x.ends(2, 1), 2176);
        is("above 60", x.ends(60, 1), 2176);
        is("61", x.ends(61, 0), -1);
        is("-1", x.ends(-1, 1), -1);
        is("no what", x.ends(1, 2), -1);
        is("no what", x.ends(1, -1), -1);
    }

    private static void rows() {
        promise("16 row");
        LetterThrough x = on(TRIANGLE);
        int[] wants = {0, 1, 3, 1};
        for (int k = 0; k < 4; k++) {
            is("row " + k, x.row(k), wants[k]);
        }
        is("more than there are", x.row(4), 0);
        is("below 0", x.row(-1), 0);
        LetterThrough kept = on(KEPT);
        is("others hold", kept.row(1), 1);
        is("others hold", kept.row(0), 0);
        is("no line needed", on("places 2;line 0 1 8;through some 1 0").row(0), 1);
        promise("33 even");
        is("0 1 3 1", x.even(), 1);
        is("no lines", on("places 2").even(), 1);
        is("one line", kept.even(), 1);
        is("all sets of 12", on(repeat("places 2", ";line 0 1 8", 12) + ";through some 1 0").even(), 1);
        // the two lines that lead there alone, 1, any third, 10; of four 45 with both and 2 * 36 with one of them
        LetterThrough uneven = on("places 4;line 0 1 8;line 0 1 8;line 0 2 8;line 0 2 8;line 0 2 8;line 2 3 8;line 2 3 8"
                + ";line 2 3 8;line 3 1 8;line 3 1 8;line 3 1 8;line 3 1 8;through two 0 1");
        is("row 2", uneven.row(2), 1);
        is("row 3", uneven.row(3), 10);
        is("row 4", uneven.row(4), 117);
        is("not even", uneven.even(), 0);
    }

    private static void mendings() {
        promise("17 mending");
        LetterThrough x = on(TRIANGLE);
        is("first", x.mending(2, 10, 16), 0);
        is("second", x.mending(0, 5, 16), 1);
        is("third", x.mending(1, 5, 16), 2);
        is("count", x.count(4), 3);
        is("the line is as it was", x.line(2, 2), 4);
        is("the chance is as it was", x.chance(0), 2176);
        promise("19 mended");
        is("ahead of any", x.mended(0), -1);
        is("ahead of any", x.mended(1), -1);
        promise("18 mend");
        is("0 coins", x.mend(0), 2176);
        promise("19 mended");
        is("nothing", x.mended(0), 0);
        is("for nothing", x.mended(1), 0);
        promise("18 mend");
        is("4 coins", x.mend(4), 2176);
        is("5 coins", x.mend(5), 3328);
        promise("19 mended");
        is("the first line", x.mended(0), 2);
        is("its coins", x.mended(1), 5);
        is("no what", x.mended(2), -1);
        is("no what", x.mended(-1), -1);
        promise("18 mend");
        is("10 coins", x.mend(10), 4096);
        is("as good for as much: the least number", x.mended(0), 1);
        is("99999 coins", x.mend(99999), 4096);
        is("no more than needed", x.mended(1), 10);
        is("below 0", x.mend(-1), -1);
        is("above", x.mend(100000), -1);
        is("of the latest that was not NONE", x.mended(1), 10);
        x.mending(2, 9, 16);
        is("mended stays", x.mended(0), 1);
        is("the least coins", x.mend(10), 4096);
        is("the ninth", x.mended(0), 8);
        is("for 9", x.mended(1), 9);
        LetterThrough same = on("places 2;line 0 1 2;through one 0 1");
        same.mending(0, 3, 9);
        same.mending(0, 4, 7);
        same.mending(0, 1, 5);
        is("the greatest of one line", same.mend(8), 9);
        is("alone", same.mended(0), 1);
        is("what can be paid", same.mend(2), 5);
        is("that one", same.mended(0), 4);
        tell(same, "places 2");
        is("none of another land", same.mended(0), -1);
        is("none of another land", same.mended(1), -1);
    }

    private static void mendingLimits() {
        promise("17 mending, limits");
        LetterThrough x = on("places 2;line 0 1 8;line 0 1 16");
        is("not above what it is", x.mending(0, 1, 8), -1);
        is("not above what it is", x.mending(0, 1, 0), -1);
        is("above 16", x.mending(0, 1, 17), -1);
        is("nothing above 16", x.mending(1, 1, 16), -1);
        is("no coins", x.mending(0, 0, 9), -1);
        is("too many coins", x.mending(0, 1000, 9), -1);
        is("no line", x.mending(2, 1, 9), -1);
        is("no line", x.mending(-1, 1, 9), -1);
        is("count", x.count(4), 0);
        for (int i = 0; i < 9; i++) {
            is("mending", x.mending(0, 999, 9 + i % 8), i);
        }
        is("a tenth", x.mending(0, 1, 9), -1);
        is("count", x.count(4), 9);
    }

    private static void newLines() {
        promise("20 add");
        LetterThrough x = on(TRIANGLE);
        is("a sure one", x.add(16, 0), 65536);
        is("a", x.add(16, 1), 0);
        is("b", x.add(16, 2), 2);
        is("half", x.add(8, 0), 8 * 4096 + 8 * 2176);
        is("never", x.add(0, 0), 16 * 2176);
        is("then the least a", x.add(0, 1), 0);
        is("then the least b", x.add(0, 2), 1);
        is("no chance", x.add(17, 0), -1);
        is("no chance", x.add(-1, 0), -1);
        is("no what", x.add(8, 3), -1);
        is("no what", x.add(8, -1), -1);
        is("the land is as it was", x.count(1), 3);
        LetterThrough far = on("places 4;line 0 1 8;line 2 3 16;through one 0 3");
        is("between", far.add(16, 0), 16 * 16 * 16);
        is("as good as the straight one, and the least a", far.add(16, 1), 0);
        is("then b", far.add(16, 2), 2);
        LetterThrough some = on("places 4;line 0 1 8;line 2 3 16;through some 3 1");
        is("from 1, be the other line as it may", some.add(5, 1), 1);
        is("to the least b", some.add(5, 2), 2);
        LetterThrough kept = on("places 3;line 0 1 8;keep 2 8;through all");
        is("only if both ends stand", kept.add(16, 0), 8 * 8 * 16);
        is("a", kept.add(16, 1), 0);
        is("b", kept.add(16, 2), 2);
        LetterThrough days = on("places 3;line 0 1 8;line 1 2 12;line 0 2 4 days 2;through days 1 0 2");
        is("of one day", days.add(16, 0), 65536);
        LetterThrough ten = on(repeat("places 2", ";line 0 1 0", 10) + ";through one 0 1");
        is("10 things", ten.add(1, 0), 1L << 40);
        is("11 things", on(repeat("places 2", ";line 0 1 0", 11)).add(1, 0), -1);
        is("12 lines", on(repeat("places 2", ";line 0 1 0", 12)).add(1, 1), -1);
        is("no lines", on("places 2;through one 1 0").add(7, 0), 7);
        LetterThrough two = on("places 2;line 0 1 8;through two 0 1");
        is("a second way", two.add(4, 0), 32);
    }

    private static void plans() {
        promise("21 plan");
        LetterThrough x = on(TRIANGLE);
        int[] wants = {0, 3, 3, 3, 3, 3, 3, 7, 7, -2, -2, -2, -2, -2, -2, -2, -2};
        for (int n = 0; n <= 16; n++) {
            is("plan " + n, x.plan(n), wants[n]);
        }
        is("17", x.plan(17), -1);
        is("-1", x.plan(-1), -1);
        is("the shortest", on("places 2;line 0 1 16 days 5;line 0 1 8 days 4;through one 0 1").plan(8), 2);
        is("the likelier", on("places 2;line 0 1 9 days 4;line 0 1 8 days 4;line 0 1 9 days 4;through one 0 1").plan(8), 1);
        is("the likelier comes later", on("places 2;line 0 1 8 days 4;line 0 1 9 days 4;through one 0 1").plan(8), 2);
        is("just below", on("places 2;line 0 1 7;keep 0 16;through one 0 1").plan(8), -2);
        is("other things as they are", on(KEPT).plan(6), 1);
        is("other things as they are", on(KEPT).plan(7), -2);
        is("nothing to be built", on("places 2;line 0 1 16;through some 1 0").plan(16), 0);
        promise("22 judge");
        long[] judged = {0, 0, 0, 1536, 1024, 1024, 1024, 2176};
        for (int set = 0; set < 8; set++) {
            is("judge " + set, x.judge(set), judged[set]);
        }
        is("a line that is not there", x.judge(8), -1);
        is("below 0", x.judge(-1), -1);
        is("kept", on(KEPT).judge(1), 1536);
        is("kept, beyond", on(KEPT).judge(2), -1);
    }

    private static void causes() {
        promise("23 without");
        LetterThrough x = on(KEPT);
        is("without it", x.without(0), 128);
        is("no cause", x.without(1), -1);
        is("no cause", x.without(-1), -1);
        LetterThrough two = on("places 2;line 0 1 4;cause 2 line 0;cause 3 place 0;through one 0 1");
        is("without the first", two.without(0), 12);
        is("without the second", two.without(1), 8);
        is("no third", two.without(2), -1);
    }

    private static void letters() {
        promise("24 letter");
        LetterThrough x = on(TRIANGLE);
        promise("25 thought");
        is("ahead of letters", x.thought(0, 0), 2048);
        is("of all", x.thought(0, 1), 4096);
        promise("24 letter");
        is("it came", x.letter(0, 2, true), 0);
        promise("25 thought");
        int[] wants = {1664, 1920, 1024};
        for (int t = 0; t < 3; t++) {
            is("thought " + t, x.thought(t, 0), wants[t]);
            is("of " + t, x.thought(t, 1), 2176);
        }
        is("no thing", x.thought(3, 0), -1);
        is("no thing", x.thought(-1, 0), -1);
        is("no part", x.thought(0, 2), -1);
        is("no part", x.thought(0, -1), -1);
        promise("26 look");
        is("look", x.look(), 2);
        promise("24 letter");
        is("another did not", x.letter(1, 2, false), 1);
        promise("25 thought");
        // line 1 fallen, and not 0 with 2: then only line 2 leads there, and 0 has fallen
        is("all agree", x.thought(0, 1), 8 * 4 * 4);
        is("0 has fallen", x.thought(0, 0), 0);
        is("1 has fallen", x.thought(1, 0), 0);
        is("2 holds", x.thought(2, 0), 128);
        promise("26 look");
        is("all as even: the least", x.look(), 0);
        x.letter(0, 2, false);
        is("told against each other", x.thought(0, 1), 0);
        is("nothing agrees", x.look(), -1);
        promise("24 letter");
        is("to itself", x.letter(1, 1, true), -1);
        is("no place", x.letter(3, 1, true), -1);
        is("no place", x.letter(1, 3, true), -1);
        is("no place", x.letter(-1, 1, true), -1);
        is("no place", x.letter(1, -1, true), -1);
        for (int i = 3; i < 6; i++) {
            is("letter", x.letter(0, 2, true), i);
        }
        is("a seventh", x.letter(0, 2, true), -1);
        is("count", x.count(5), 6);
        promise("26 look");
        is("no things", on("places 2").look(), -1);
        is("the most even", on("places 2;line 0 1 3;line 0 1 9;line 0 1 7").look(), 1);
        promise("24 letter, as one");
        LetterThrough one = on("places 2;line 0 1 8 one;keep 1 8;through all");
        one.letter(0, 1, true);
        is("line and keeper", one.thought(0, 1), 64);
        one.letter(1, 0, true);
        is("not back", one.thought(0, 1), 0);
    }

    private static void days() {
        promise("27 within");
        LetterThrough x = on(TRIANGLE);
        is("0 days", x.within(0, 2, 0), 0);
        is("1 day", x.within(0, 2, 1), 0);
        is("2 days", x.within(0, 2, 2), 2176);
        is("99 days", x.within(0, 2, 99), 2176);
        is("1 day to 1", x.within(0, 1, 1), 2048);
        is("2 days to 1", x.within(0, 1, 2), 2048);
        is("3 days to 1", x.within(0, 1, 3), 2048 + 8 * 12 * 4);
        is("-1", x.within(0, 2, -1), -1);
        is("100", x.within(0, 2, 100), -1);
        is("to itself", x.within(1, 1, 5), -1);
        is("no place", x.within(3, 1, 5), -1);
        is("no place", x.within(0, -1, 5), -1);
        is("only if it stands", on(KEPT).within(0, 1, 1), 1536);
        is("not back", on(KEPT).within(1, 0, 99), 0);
        is("to another place", x.within(1, 2, 1), 3072);
        is("from another place", x.within(0, 2, 2), 2176);
        is("back", x.within(2, 0, 2), 2176);
        promise("28 soon");
        is("0 sixteenths", x.soon(0, 2, 0), 1);
        is("1", x.soon(0, 2, 1), 2);
        is("8", x.soon(0, 2, 8), 2);
        is("9", x.soon(0, 2, 9), -2);
        is("8 to 1", x.soon(0, 1, 8), 1);
        is("9 to 1", x.soon(0, 1, 9), 3);
        is("10 to 1", x.soon(0, 1, 10), -2);
        is("-1", x.soon(0, 2, -1), -1);
        is("17", x.soon(0, 2, 17), -1);
        is("to itself", x.soon(2, 2, 1), -1);
        is("no place", x.soon(0, 3, 1), -1);
        promise("36 mean");
        is("above", x.mean(0, 2, 0), 4352);
        is("below", x.mean(0, 2, 1), 2176);
        is("above to 1", x.mean(0, 1, 0), 2048 + 3 * 384);
        is("below to 1", x.mean(0, 1, 1), 2432);
        is("no part", x.mean(0, 1, 2), -1);
        is("no part", x.mean(0, 1, -1), -1);
        is("to itself", x.mean(0, 0, 0), -1);
        is("no place", x.mean(0, 3, 0), -1);
        is("never", on(KEPT).mean(1, 0, 0), 0);
        LetterThrough long81 = on(chain(10, "16 days 9") + ";keep 0 16;keep 1 16;keep 2 16;keep 3 16;keep 4 16;keep 5 16");
        is("81 days", long81.soon(0, 9, 16), 81);
        is("going round 64 bits", long81.mean(0, 9, 0), 81 * (1L << 60));
    }

    private static void draws() {
        promise("29 draw");
        // 6 14 1 11 11 11 2 11 4 6 are the first of seed 1, of 16 the rest
        LetterThrough one = on("places 2;line 0 1 8;through one 0 1");
        is("the first", one.draw(1, 1), 1);
        is("two", one.draw(1, 2), 1);
        is("ten", one.draw(1, 10), 5);
        is("below 11", on("places 2;line 0 1 11;through one 0 1").draw(1, 10), 5);
        is("below 12", on("places 2;line 0 1 12;through one 0 1").draw(1, 10), 9);
        LetterThrough x = on(TRIANGLE);
        is("three by three", x.draw(1, 3), 2);
        is("three by three", x.draw(1, 2), 1);
        LetterThrough sure = on("places 2;line 0 1 16;through one 0 1");
        is("all of 1000", sure.draw(HIGH, 1000), 1000);
        is("seed 0", sure.draw(0, 1), 1);
        is("none of 1000", on("places 2;line 0 1 0;through one 0 1").draw(0, 1000), 0);
        is("no draws", x.draw(1, 0), -1);
        is("too many", x.draw(1, 1001), -1);
        is("seed below 0", x.draw(-1, 1), -1);
        is("lowest", x.draw(LOW, 1), -1);
        is("keepers and causes too", on("places 2;line 0 1 7;keep 0 15;cause 2 place 1;through one 0 1").draw(1, 1), 1);
    }

    private static void joined() {
        promise("30 joined");
        is("triangle", on(TRIANGLE).joined(0, 2), 1);
        is("triangle", on(TRIANGLE).joined(1, 0), 1);
        is("one between them", on(KEPT).joined(0, 1), 1);
        is("none", on("places 2").joined(0, 1), 0);
        is("a dead end goes", on("places 4;line 0 1 8;line 1 2 8;line 2 3 8").joined(0, 1), 1);
        is("a way becomes one", on("places 4;line 0 1 8;line 1 2 8;line 2 3 8").joined(0, 3), 1);
        is("they stay apart", on("places 4;line 0 1 8;line 2 3 8").joined(0, 3), 0);
        is("a ring aside goes", on("places 5;line 2 3 8;line 3 4 8;line 4 2 8").joined(0, 1), 0);
        String bridge = "places 4;line 0 1 8;line 0 2 8;line 1 2 8;line 1 3 8;line 2 3 8";
        is("a bridge over the middle stays", on(bridge).joined(0, 3), 5);
        is("its other two join", on(bridge).joined(1, 2), 1);
        is("from a side", on(bridge).joined(0, 1), 1);
        is("of two one goes", on(bridge + ";line 2 1 8 one;line 0 1 0").joined(0, 3), 5);
        is("four all together aside stay", on("places 6;line 2 3 8;line 2 4 8;line 2 5 8;line 3 4 8;line 3 5 8;line 4 5 8").joined(0, 1), 6);
        LetterThrough x = on(bridge);
        is("to itself", x.joined(1, 1), -1);
        is("no place", x.joined(0, 4), -1);
        is("no place", x.joined(-1, 0), -1);
    }

    private static void aloneAndAlike() {
        promise("31 alone");
        LetterThrough x = on(KEPT);
        is("each its own", x.alone(0), 16 * 8 * 12 * 12);
        is("over", x.alone(1), 65536);
        is("no what", x.alone(2), -1);
        is("no what", x.alone(-1), -1);
        LetterThrough twice = on("places 2;line 0 1 8;cause 4 line 0 place 0 line 0;cause 5 line 0;through one 0 1");
        is("several times: one", twice.alone(0), 8 * 4 * 4 * 5);
        is("over", twice.alone(1), 65536);
        is("no causes", on(TRIANGLE).alone(0), 2176);
        is("no causes, over", on(TRIANGLE).alone(1), 4096);
        LetterThrough both = on("places 2;line 0 1 16;line 0 1 16;cause 8 line 0 line 1;through one 0 1");
        is("together", both.chance(0), 8 * 256);
        is("apart", both.alone(0), (256 - 64) * 256);
        String full = repeat("places 2", ";line 0 1 16", 12) + ";cause 8 line 0 line 1 line 2";
        is("15", on(full).alone(1), 1L << 60);
        is("15", on(full + ";through one 0 1").alone(0), 1L << 60);
        is("16", on(full + " line 3").alone(1), -1);
        is("16", on(full + " line 3").alone(0), -1);
        promise("32 alike");
        LetterThrough y = on(TRIANGLE);
        is("8", y.alike(8), 5 * 512);
        is("16", y.alike(16), 4096);
        is("0", y.alike(0), 0);
        is("1", y.alike(1), 15 * 15 + 3 * 15 + 1);
        is("17", y.alike(17), -1);
        is("-1", y.alike(-1), -1);
        is("others hold", x.alike(3), 3);
        is("no line needed", on("places 2;line 0 1 8;through some 1 0").alike(0), 16);
    }

    private static void trees() {
        promise("34 trees");
        is("triangle", on(TRIANGLE).trees(), 3);
        is("both ways", on("places 2;line 0 1 0 one").trees(), 1);
        is("two lines", on("places 2;line 0 1 8;line 1 0 8;keep 0 0").trees(), 2);
        is("not joined", on("places 3;line 0 1 8;line 0 1 8").trees(), 0);
        is("four all together", on("places 4;line 0 1 8;line 0 2 8;line 0 3 8;line 1 2 8;line 1 3 8;line 2 3 8").trees(), 16);
    }

    private static void looks() {
        promise("35 looks");
        LetterThrough x = on(TRIANGLE);
        is("all three", x.looks(0), 3);
        is("first", x.looks(1), 0);
        is("no what", x.looks(2), -1);
        is("no what", x.looks(-1), -1);
        is("sure already", on("places 2;line 0 1 8;through some 1 0").looks(0), 0);
        is("no look", on("places 2;line 0 1 8;through some 1 0").looks(1), -1);
        LetterThrough useless = on("places 3;line 0 2 8;line 0 1 8;through one 0 1");
        is("one", useless.looks(0), 1);
        is("the one that matters", useless.looks(1), 1);
        // keeper 0 stands or not: line 0-1 or line 0-2, with the cause of both
        LetterThrough five = on("places 4;line 0 1 8;line 0 2 8;line 1 3 8;line 2 3 8;line 1 2 8;through one 0 3");
        is("a bridge needs all", five.looks(0), 5);
        is("nine", on(repeat("places 2", ";line 0 1 1", 9) + ";through one 0 1").looks(0), 9);
        is("ten", on(repeat("places 2", ";line 0 1 1", 10) + ";through one 0 1").looks(0), -1);
        is("ten, first", on(repeat("places 2", ";line 0 1 1", 10) + ";through one 0 1").looks(1), -1);
    }

    private static void differ() {
        promise("37 differ");
        LetterThrough x = on(TRIANGLE);
        int[] wants = {1536, 128, 384, 128};
        int[] other = {1536, 384, 128, 128};
        for (int which = 0; which < 4; which++) {
            is("differ 0 1 " + which, x.differ(0, 1, which), wants[which]);
            is("differ 1 0 " + which, x.differ(1, 0, which), other[which]);
        }
        is("no which", x.differ(0, 1, 4), -1);
        is("no which", x.differ(0, 1, -1), -1);
        is("with itself", x.differ(1, 1, 0), -1);
        is("no thing", x.differ(0, 3, 0), -1);
        is("no thing", x.differ(-1, 0, 0), -1);
    }

    private static void images() {
        promise("38 image");
        LetterThrough x = new LetterThrough();
        promise("39 restore");
        is("never made", x.restore(0), -1);
        promise("38 image");
        is("of nothing told", x.image(3), 0);
        is("no image", x.image(4), -1);
        is("no image", x.image(-1), -1);
        tell(x, TRIANGLE);
        x.mending(0, 5, 16);
        x.letter(0, 2, true);
        x.mend(5);
        is("image", x.image(0), 3);
        is("mended stays", x.mended(0), 1);
        x.mending(1, 5, 16);
        x.letter(1, 2, false);
        is("with more", x.image(1), 3);
        tell(x, KEPT);
        feedAll(x, "places 2");
        promise("39 restore");
        is("restore", x.restore(0), 3);
        is("mended is none", x.mended(0), -1);
        is("mended is none", x.mended(1), -1);
        is("the tape is as it was", x.count(7), 8);
        is("chance", x.chance(0), 2176);
        is("mendings", x.count(4), 1);
        is("letters", x.count(5), 1);
        is("thought", x.thought(0, 1), 2176);
        is("mend", x.mend(99), 3328);
        is("next mending", x.mending(2, 1, 16), 1);
        is("next letter", x.letter(2, 0, true), 1);
        is("restore", x.restore(1), 3);
        is("mendings", x.count(4), 2);
        is("thought", x.thought(0, 1), 128);
        is("the image is as it was", x.restore(0), 3);
        is("mendings", x.count(4), 1);
        is("letters", x.count(5), 1);
        is("never made", x.restore(2), -1);
        is("no image", x.restore(4), -1);
        is("no image", x.restore(-1), -1);
        is("nothing happened", x.count(4), 1);
        is("nothing told", x.restore(3), 0);
        is("two places", x.count(0), 2);
        is("all", x.count(6), 1);
        is("chance", x.chance(0), 0);
        is("made anew", x.image(0), 0);
        is("as it is now", x.restore(0), 0);
        is("as it is now", x.count(1), 0);
    }

    /** No call may throw, whatever it is given. */
    private static void wrongEverywhere() {
        promise("wrong inputs");
        int[] wrong = {LOW, LOW + 1, -2, -1, 0, 1, 2, 3, 9, 10, 12, 15, 16, 31, 32, 33, 63, 64, 99, 100, 32767, 32768, HIGH};
        String[] lands = {TRIANGLE, KEPT, "places 2", "places 10;keep 9 3;through some 10 9"};
        for (String text : lands) {
            LetterThrough x = on(text);
            for (int a : wrong) {
                for (int b : wrong) {
                    boolean yes = b % 2 == 0;
                    x.line(a, b);
                    x.place(a, b);
                    x.so(a);
                    x.chance(a);
                    x.sure(a, yes);
                    x.matters(a, b);
                    x.way(yes, a);
                    x.ends(a, b);
                    x.row(a);
                    x.mending(a, b, 9);
                    x.mend(a);
                    x.mended(a);
                    x.add(a, b);
                    x.plan(a);
                    x.judge(a);
                    x.without(a);
                    x.letter(a, b, yes);
                    x.thought(a, b);
                    x.within(a, b, 3);
                    x.within(0, 1, a);
                    x.soon(a, b, 3);
                    x.draw(a, b);
                    x.joined(a, b);
                    x.alone(a);
                    x.alike(a);
                    x.looks(a);
                    x.mean(a, b, 0);
                    x.differ(a, b, 0);
                    x.differ(0, 1, a);
                    x.image(a);
                    x.restore(a);
                    x.count(a);
                    x.end(a);
                }
            }
            is("still there", x.count(0) >= 2 ? 1 : 0, 1);
        }
    }
}
