import java.util.Arrays;

/** Will a letter get through a LAND told as a text: see ../shared/DOC.md for what each call answers. */
public final class LetterThrough {
    public static final int NONE = -1;

    private static final int MOST_BYTES = 400;
    private static final int MOST_PLACES = 10;
    private static final int MOST_LINES = 12;
    private static final int MOST_CAUSES = 3;
    private static final int MOST_THINGS = 15;
    private static final int MOST_MENDINGS = 9;
    private static final int MOST_LETTERS = 6;
    private static final int MOST_DAYS = 99;
    private static final int MOST_TOLD = 60;
    private static final int MOST_IMAGES = 4;
    private static final int SURE = 16;

    private static final int BY_ONE = 0;
    private static final int BY_ALL = 1;
    private static final int BY_SOME = 2;
    private static final int BY_DAYS = 3;
    private static final int BY_TWO = 4;

    // What has been worked out for the LAND as it is (bits of 'known').
    private static final int KNOWN_SETS = 1;
    private static final int KNOWN_WAYS = 2;
    private static final int KNOWN_CUTS = 4;
    private static final int KNOWN_BUILT = 8;
    private static final int KNOWN_MENDS = 16;
    private static final int KNOWN_AGREES = 32;
    private static final int KNOWN_NEW = 64;
    private static final int KNOWN_LOOKS = 128;
    private static final int KNOWN_DAYS = 256;

    private final Land told = new Land();
    private final Tape tape = new Tape(told);
    private final Land land = new Land();
    private final Notes notes = new Notes();
    private final Land[] landImages = new Land[MOST_IMAGES];
    private final Notes[] notesImages = new Notes[MOST_IMAGES];
    private int imagesMade;
    private int known;
    private int mendedSet = NONE;
    private int mendedCoins = NONE;
    private final Sets sets = new Sets(land);
    private final Least leastWays = new Least(sets, false);
    private final Least leastCuts = new Least(sets, true);
    private final Built built = new Built(land, notes, sets);
    private final Mail mail = new Mail(notes, sets);
    private final Extra extra = new Extra(land, sets);
    private final Looks finder = new Looks(sets);

    public LetterThrough() {
        for (int k = 0; k < MOST_IMAGES; k++) {
            landImages[k] = new Land();
            notesImages[k] = new Notes();
        }
    }

    public int feed(int a, int b, int c, int d, int e) {
        if (!tape.hasRoom(20)) {
            return NONE;
        }
        tape.put(a);
        tape.put(b);
        tape.put(c);
        tape.put(d);
        tape.put(e);
        return tape.bytes;
    }

    public int end(int n) {
        if (n < 0 || n > tape.bytes) {
            return NONE;
        }
        tape.bytes = n;
        return n;
    }

    public int land() {
        int fault = tape.readLand();
        tape.bytes = 0;
        if (fault != 0) {
            return -2 - fault;
        }
        land.copyOf(told);
        notes.clear();
        forget();
        return land.things();
    }

    public int line(int k, int what) {
        if (k < 0 || k >= land.lines) {
            return NONE;
        }
        switch (what) {
            case 0: return land.from[k];
            case 1: return land.to[k];
            case 2: return land.lineChance[k];
            case 3: return land.oneWay[k] == 0 ? 1 : 0;
            case 4: return land.days[k];
            case 5: return land.causesNaming(land.namedLines, k);
            default: return NONE;
        }
    }

    public int place(int p, int what) {
        if (p < 0 || p >= land.places) {
            return NONE;
        }
        int keeper = land.keeperOf(p);
        switch (what) {
            case 0: return keeper == NONE ? SURE : land.keeperChance[keeper];
            case 1: return keeper == NONE ? NONE : land.lines + keeper;
            case 2: return land.causesNaming(land.namedPlaces, p);
            default: return NONE;
        }
    }

    public int so(int set) {
        if (set < 0 || set >> land.things() != 0) {
            return NONE;
        }
        return knownSets().isThrough(set) ? 1 : 0;
    }

    public long chance(int what) {
        switch (what) {
            case 0: return knownSets().throughIn(0, 0);
            case 1: return Sets.power(land.things());
            default: return NONE;
        }
    }

    public long sure(int thing, boolean holds) {
        return isThing(thing) ? knownSets().given(thing, holds) : NONE;
    }

    public long matters(int thing, int what) {
        if (!isThing(thing)) {
            return NONE;
        }
        switch (what) {
            case 0: return knownSets().weightOf(thing);
            case 1: return knownSets().decidesIn(thing);
            case 2: return land.chanceOf(thing);
            default: return NONE;
        }
    }

    public int most() {
        int best = NONE;
        long bestWeight = 0;
        for (int thing = 0; thing < land.things(); thing++) {
            long weight = knownSets().weightOf(thing);
            if (best == NONE || weight > bestWeight) {
                best = thing;
                bestWeight = weight;
            }
        }
        return best;
    }

    public int useless() {
        int found = 0;
        for (int thing = 0; thing < land.things(); thing++) {
            if (knownSets().decidesIn(thing) == 0) {
                found |= 1 << thing;
            }
        }
        return found;
    }

    public int ways(boolean cuts) {
        return knownLeast(cuts).total;
    }

    public int way(boolean cuts, int k) {
        Least least = knownLeast(cuts);
        return k < 0 || k >= least.told ? NONE : least.set[k];
    }

    public long ends(int n, int what) {
        if (n < 0 || n > MOST_TOLD || what < 0 || what > 1) {
            return NONE;
        }
        if (what == 0) {
            return knownLeast(false).someOfFirst(n);
        }
        return Sets.power(land.things()) - knownLeast(true).someOfFirst(n);
    }

    public int row(int k) {
        if (k < 0 || k > land.lines) {
            return 0;
        }
        return knownSets().lineSetsOf(k);
    }

    public int mending(int line, int coins, int to) {
        if (line < 0 || line >= land.lines || coins < 1 || coins > 999) {
            return NONE;
        }
        if (to <= land.lineChance[line] || to > SURE || notes.mendings >= MOST_MENDINGS) {
            return NONE;
        }
        known &= ~KNOWN_MENDS;
        return notes.addMending(line, coins, to);
    }

    public long mend(int coins) {
        if (coins < 0 || coins > 99999) {
            return NONE;
        }
        know(KNOWN_BUILT | KNOWN_MENDS);
        mendedSet = built.bestMended(coins);
        mendedCoins = notes.coinsOf(mendedSet);
        return built.mendedTo[mendedSet];
    }

    public int mended(int what) {
        switch (what) {
            case 0: return mendedSet;
            case 1: return mendedCoins;
            default: return NONE;
        }
    }

    public long add(int chance, int what) {
        if (chance < 0 || chance > SURE || what < 0 || what > 2) {
            return NONE;
        }
        if (land.things() > Extra.MOST_WITH || land.lines >= MOST_LINES) {
            return NONE;
        }
        know(KNOWN_SETS);
        if (isNew(KNOWN_NEW)) {
            extra.tryAll();
        }
        if (what == 0) {
            return chance * extra.bestChance + (SURE - chance) * sets.throughIn(0, 0);
        }
        // A LINE that never HOLDS changes nothing: then all pairs are alike, and 0 and 1 are the least.
        if (chance == 0) {
            return what - 1;
        }
        return what == 1 ? extra.bestA : extra.bestB;
    }

    public int plan(int n) {
        if (n < 0 || n > SURE) {
            return NONE;
        }
        know(KNOWN_BUILT);
        return built.shortest(n);
    }

    public long judge(int lines) {
        if (lines < 0 || lines >> land.lines != 0) {
            return NONE;
        }
        know(KNOWN_BUILT);
        return built.builtTo[lines];
    }

    public long without(int cause) {
        if (cause < 0 || cause >= land.causes) {
            return NONE;
        }
        return knownSets().given(land.lines + land.keepers + cause, true);
    }

    public int letter(int a, int b, boolean came) {
        if (!isPair(a, b) || notes.letters >= MOST_LETTERS) {
            return NONE;
        }
        known &= ~KNOWN_AGREES;
        return notes.addLetter(a, b, came);
    }

    public long thought(int thing, int part) {
        if (!isThing(thing) || part < 0 || part > 1) {
            return NONE;
        }
        return knownMail().agreeing(part == 0 ? 1 << thing : 0);
    }

    public int look() {
        return knownMail().lookFirst();
    }

    public long within(int a, int b, int d) {
        if (!isPair(a, b) || d < 0 || d > MOST_DAYS) {
            return NONE;
        }
        return knownDays(a, b).cameWithin(d);
    }

    public int soon(int a, int b, int n) {
        if (!isPair(a, b) || n < 0 || n > SURE) {
            return NONE;
        }
        Mail asked = knownDays(a, b);
        for (int d = 1; d <= MOST_DAYS; d++) {
            if (Sets.isSixteenths(asked.cameWithin(d), n, land.things())) {
                return d;
            }
        }
        return -2;
    }

    public int draw(int seed, int n) {
        if (seed < 0 || n < 1 || n > 1000) {
            return NONE;
        }
        return knownSets().drawn(seed, n);
    }

    public int joined(int a, int b) {
        return isPair(a, b) ? knownSets().roads.joinedFor(a, b) : NONE;
    }

    public long alone(int what) {
        int apart = land.thingsApart();
        if (what < 0 || what > 1 || apart > MOST_THINGS) {
            return NONE;
        }
        return what == 1 ? Sets.power(apart) : knownSets().throughApart();
    }

    public long alike(int chance) {
        if (chance < 0 || chance > SURE) {
            return NONE;
        }
        long sum = 0;
        for (int k = 0; k <= land.lines; k++) {
            sum += knownSets().lineSetsOf(k) * Sets.times(chance, k) * Sets.times(SURE - chance, land.lines - k);
        }
        return sum;
    }

    public int even() {
        for (int k = 1; k < land.lines; k++) {
            int here = knownSets().lineSetsOf(k);
            if (here * here < sets.lineSetsOf(k - 1) * sets.lineSetsOf(k + 1)) {
                return 0;
            }
        }
        return 1;
    }

    public int trees() {
        return knownSets().roads.joiningTrees();
    }

    public int looks(int what) {
        if (what < 0 || what > 1 || land.things() > Looks.MOST_WITH) {
            return NONE;
        }
        know(KNOWN_LOOKS);
        return what == 0 ? finder.fewest() : finder.firstThing();
    }

    public long mean(int a, int b, int part) {
        if (!isPair(a, b) || part < 0 || part > 1) {
            return NONE;
        }
        Mail asked = knownDays(a, b);
        return part == 0 ? asked.daysTogether() : asked.cameWithin(MOST_DAYS);
    }

    public long differ(int a, int b, int which) {
        if (!isThing(a) || !isThing(b) || a == b || which < 0 || which > 3) {
            return NONE;
        }
        int holdA = which < 2 ? 1 << a : 0;
        int holdB = which % 2 == 0 ? 1 << b : 0;
        return knownSets().throughIn(1 << a | 1 << b, holdA | holdB);
    }

    public int image(int k) {
        if (k < 0 || k >= MOST_IMAGES) {
            return NONE;
        }
        landImages[k].copyOf(land);
        notesImages[k].copyOf(notes);
        imagesMade |= 1 << k;
        return land.things();
    }

    public int restore(int k) {
        if (k < 0 || k >= MOST_IMAGES || (imagesMade >> k & 1) == 0) {
            return NONE;
        }
        land.copyOf(landImages[k]);
        notes.copyOf(notesImages[k]);
        forget();
        return land.things();
    }

    public int count(int what) {
        switch (what) {
            case 0: return land.places;
            case 1: return land.lines;
            case 2: return land.keepers;
            case 3: return land.causes;
            case 4: return notes.mendings;
            case 5: return notes.letters;
            case 6: return land.what;
            case 7: return tape.bytes;
            default: return NONE;
        }
    }

    private boolean isThing(int thing) {
        return thing >= 0 && thing < land.things();
    }

    private boolean isPair(int a, int b) {
        return a >= 0 && a < land.places && b >= 0 && b < land.places && a != b;
    }

    /** There is another LAND: nothing that was worked out stands any more. */
    private void forget() {
        known = 0;
        mendedSet = NONE;
        mendedCoins = NONE;
    }

    private boolean isNew(int part) {
        boolean missing = (known & part) == 0;
        known |= part;
        return missing;
    }

    private boolean lacks(int parts, int part) {
        return (parts & part) != 0 && isNew(part);
    }

    /** Works out what is asked for and not known yet, in an order in which each finds what it needs. */
    private void know(int parts) {
        if (isNew(KNOWN_SETS)) {
            sets.workOut();
        }
        if (lacks(parts, KNOWN_WAYS)) {
            leastWays.find();
        }
        if (lacks(parts, KNOWN_CUTS)) {
            leastCuts.find();
        }
        if (lacks(parts, KNOWN_BUILT)) {
            built.workOut();
        }
        if (lacks(parts, KNOWN_MENDS)) {
            built.mendAll();
        }
        if (lacks(parts, KNOWN_AGREES)) {
            mail.compare();
        }
        if (lacks(parts, KNOWN_LOOKS)) {
            finder.workOut();
        }
    }

    private Sets knownSets() {
        know(KNOWN_SETS);
        return sets;
    }

    private Least knownLeast(boolean cuts) {
        know(cuts ? KNOWN_CUTS : KNOWN_WAYS);
        return cuts ? leastCuts : leastWays;
    }

    private Mail knownMail() {
        know(KNOWN_AGREES);
        return mail;
    }

    private Mail knownDays(int a, int b) {
        know(KNOWN_SETS);
        if (isNew(KNOWN_DAYS) || !mail.isFor(a, b)) {
            mail.travel(a, b);
        }
        return mail;
    }

    /** What a text tells: PLACES, LINES, KEEPERS, CAUSES, and what counts as THROUGH. */
    static final class Land {
        int places = 2;
        int lines;
        // One more than a text may tell: the NEW LINE comes last.
        final int[] from = new int[MOST_LINES + 1];
        final int[] to = new int[MOST_LINES + 1];
        final int[] lineChance = new int[MOST_LINES + 1];
        final int[] oneWay = new int[MOST_LINES + 1];
        final int[] days = new int[MOST_LINES + 1];
        int keepers;
        final int[] keptPlace = new int[MOST_PLACES];
        final int[] keeperChance = new int[MOST_PLACES];
        int causes;
        final int[] causeChance = new int[MOST_CAUSES];
        final int[] namedLines = new int[MOST_CAUSES];
        final int[] namedPlaces = new int[MOST_CAUSES];
        int what = BY_ALL;
        int amount;
        int first;
        int second;

        void clear() {
            places = 2;
            lines = 0;
            keepers = 0;
            causes = 0;
            countBy(BY_ALL, 0, 0, 0);
        }

        void countBy(int itsWhat, int itsAmount, int a, int b) {
            what = itsWhat;
            amount = itsAmount;
            first = a;
            second = b;
        }

        void copyOf(Land other) {
            places = other.places;
            lines = other.lines;
            keepers = other.keepers;
            causes = other.causes;
            countBy(other.what, other.amount, other.first, other.second);
            copyRow(other.from, from);
            copyRow(other.to, to);
            copyRow(other.lineChance, lineChance);
            copyRow(other.oneWay, oneWay);
            copyRow(other.days, days);
            copyRow(other.keptPlace, keptPlace);
            copyRow(other.keeperChance, keeperChance);
            copyRow(other.causeChance, causeChance);
            copyRow(other.namedLines, namedLines);
            copyRow(other.namedPlaces, namedPlaces);
        }

        static void copyRow(int[] source, int[] target) {
            System.arraycopy(source, 0, target, 0, Math.min(source.length, target.length));
        }

        int things() {
            return lines + keepers + causes;
        }

        int chanceOf(int thing) {
            if (thing < lines) {
                return lineChance[thing];
            }
            if (thing < lines + keepers) {
                return keeperChance[thing - lines];
            }
            return causeChance[thing - lines - keepers];
        }

        /** Which KEEPER (0, 1, .. as told) a PLACE has, or NONE. */
        int keeperOf(int p) {
            for (int k = 0; k < keepers; k++) {
                if (keptPlace[k] == p) {
                    return k;
                }
            }
            return NONE;
        }

        int causesNaming(int[] named, int item) {
            int found = 0;
            for (int c = 0; c < causes; c++) {
                found |= (named[c] >> item & 1) << c;
            }
            return found;
        }

        /** How many THINGS there are if each ITEM of a CAUSE has a CAUSE of its own. */
        int thingsApart() {
            int sum = lines + keepers;
            for (int c = 0; c < causes; c++) {
                sum += Integer.bitCount(namedLines[c]) + Integer.bitCount(namedPlaces[c]);
            }
            return sum;
        }

        void addLine(int a, int b, int chance, int way, int length) {
            if (lines < from.length) {
                from[lines] = a;
                to[lines] = b;
                lineChance[lines] = chance;
                oneWay[lines] = way;
                days[lines] = length;
                lines++;
            }
        }

        void addKeeper(int p, int chance) {
            if (keepers < keptPlace.length) {
                keptPlace[keepers] = p;
                keeperChance[keepers] = chance;
                keepers++;
            }
        }

        void addCause(int chance, int itsLines, int itsPlaces) {
            if (causes < causeChance.length) {
                causeChance[causes] = chance;
                namedLines[causes] = itsLines;
                namedPlaces[causes] = itsPlaces;
                causes++;
            }
        }
    }

    /** MENDINGS and LETTERS. */
    static final class Notes {
        int mendings;
        final int[] mendedLine = new int[MOST_MENDINGS];
        final int[] coins = new int[MOST_MENDINGS];
        final int[] becomes = new int[MOST_MENDINGS];
        int letters;
        final int[] letterFrom = new int[MOST_LETTERS];
        final int[] letterTo = new int[MOST_LETTERS];
        final int[] came = new int[MOST_LETTERS];

        void clear() {
            mendings = 0;
            letters = 0;
        }

        void copyOf(Notes other) {
            mendings = other.mendings;
            letters = other.letters;
            Land.copyRow(other.mendedLine, mendedLine);
            Land.copyRow(other.coins, coins);
            Land.copyRow(other.becomes, becomes);
            Land.copyRow(other.letterFrom, letterFrom);
            Land.copyRow(other.letterTo, letterTo);
            Land.copyRow(other.came, came);
        }

        int addMending(int itsLine, int itsCoins, int chance) {
            if (mendings >= mendedLine.length) {
                return NONE;
            }
            mendedLine[mendings] = itsLine;
            coins[mendings] = itsCoins;
            becomes[mendings] = chance;
            mendings++;
            return mendings - 1;
        }

        int addLetter(int a, int b, boolean itCame) {
            if (letters >= letterFrom.length) {
                return NONE;
            }
            letterFrom[letters] = a;
            letterTo[letters] = b;
            came[letters] = itCame ? 1 : 0;
            letters++;
            return letters - 1;
        }

        int coinsOf(int set) {
            int sum = 0;
            for (int i = 0; i < mendings; i++) {
                sum += (set >> i & 1) * coins[i];
            }
            return sum;
        }

        int linesMended() {
            int found = 0;
            for (int i = 0; i < mendings; i++) {
                found |= 1 << mendedLine[i];
            }
            return found;
        }

        /** The CHANCE of a LINE, which is so much, after a set of MENDINGS. */
        int chanceAfter(int set, int itsLine, int chance) {
            int greatest = chance;
            for (int i = 0; i < mendings; i++) {
                if ((set >> i & 1) != 0 && mendedLine[i] == itsLine) {
                    greatest = Math.max(greatest, becomes[i]);
                }
            }
            return greatest;
        }
    }

    /** The bytes that were fed, and how they are read as a LAND. */
    static final class Tape {
        int bytes;
        private final int[] tape = new int[MOST_BYTES];
        private int at;
        /** Where the WORD or NUMBER begins that was read last. */
        private int start;
        private int fault;
        private boolean throughTold;
        private final Land land;

        Tape(Land target) {
            land = target;
        }

        boolean hasRoom(int more) {
            return bytes + more <= tape.length;
        }

        void put(int number) {
            for (int shift = 24; shift >= 0; shift -= 8) {
                if (bytes < tape.length) {
                    tape[bytes] = number >>> shift & 255;
                    bytes++;
                }
            }
        }

        /** Reads it all into its LAND: 0, or the first FAULT (then that LAND is of no use). */
        int readLand() {
            land.clear();
            at = 0;
            fault = 0;
            throughTold = false;
            readPlaces();
            for (int clauses = 0; clauses < bytes && fault == 0 && hasMore(); clauses++) {
                if (tape[at] != ';') {
                    blame(at, 0);
                } else {
                    at++;
                    readClause();
                }
            }
            return fault;
        }

        // Reading goes on behind a FAULT, for plainness: what it finds there comes later along the text.
        private void blame(int where, int kind) {
            if (fault == 0) {
                fault = 1 + 8 * where + kind;
            }
        }

        private boolean hasMore() {
            skipBlanks();
            return at < bytes;
        }

        private void skipBlanks() {
            while (at < bytes && tape[at] == ' ') {
                at++;
            }
        }

        private void readWord() {
            skipBlanks();
            start = at;
            while (at < bytes && tape[at] >= 'a' && tape[at] <= 'z') {
                at++;
            }
        }

        /** Was this the WORD that was read last. */
        private boolean isWord(String word) {
            if (at - start != word.length()) {
                return false;
            }
            for (int i = 0; i < word.length(); i++) {
                if (tape[start + i] != word.charAt(i)) {
                    return false;
                }
            }
            return true;
        }

        /** The NUMBER that comes next, which must be one from low to high. */
        private int readNumber(int low, int high) {
            skipBlanks();
            start = at;
            int value = 0;
            while (at < bytes && tape[at] >= '0' && tape[at] <= '9') {
                value = Math.min(1000, value * 10 + tape[at] - '0');
                at++;
            }
            if (at == start) {
                blame(start, 0);
            } else if (at - start > 2 || value < low || value > high) {
                blame(start, 1);
            }
            return value;
        }

        /** A PLACE, but not this one (NONE: any). */
        private int readPlace(int other) {
            int p = readNumber(0, land.places - 1);
            if (p == other) {
                blame(start, 1);
            }
            return p;
        }

        private boolean clauseGoesOn() {
            return fault == 0 && hasMore() && tape[at] != ';';
        }

        private void readPlaces() {
            readWord();
            if (!isWord("places")) {
                blame(start, 0);
            }
            int n = readNumber(2, MOST_PLACES);
            if (fault == 0) {
                land.places = n;
            }
        }

        private void readClause() {
            readWord();
            if (isWord("line")) {
                readLine();
            } else if (isWord("keep")) {
                readKeeper();
            } else if (isWord("cause")) {
                readCause();
            } else if (isWord("through")) {
                readThrough();
            } else {
                blame(start, 0);
            }
        }

        private void refuseIf(boolean tooMany) {
            if (tooMany || land.things() >= MOST_THINGS) {
                blame(start, 3);
            }
        }

        private void readLine() {
            refuseIf(land.lines >= MOST_LINES);
            int a = readPlace(NONE);
            int b = readPlace(a);
            int chance = readNumber(0, SURE);
            int way = 0;
            int length = 0;
            for (int words = 0; words < MOST_BYTES && clauseGoesOn(); words++) {
                readWord();
                if (isWord("one") && way == 0) {
                    way = 1;
                } else if (isWord("days") && length == 0) {
                    length = readNumber(1, 9);
                } else {
                    blame(start, 0);
                }
            }
            if (fault == 0) {
                land.addLine(a, b, chance, way, length == 0 ? 1 : length);
            }
        }

        private void readKeeper() {
            refuseIf(false);
            int p = readPlace(NONE);
            if (land.keeperOf(p) != NONE) {
                blame(start, 2);
            }
            int chance = readNumber(0, SURE);
            if (fault == 0) {
                land.addKeeper(p, chance);
            }
        }

        private void readCause() {
            refuseIf(land.causes >= MOST_CAUSES);
            int chance = readNumber(0, SURE);
            int itsLines = 0;
            int itsPlaces = 0;
            for (int items = 0; items < MOST_BYTES && (items == 0 || clauseGoesOn()); items++) {
                readWord();
                if (isWord("line")) {
                    itsLines |= 1 << readNumber(0, land.lines - 1);
                } else if (isWord("place")) {
                    itsPlaces |= 1 << readPlace(NONE);
                } else {
                    blame(start, 0);
                }
            }
            if (fault == 0) {
                land.addCause(chance, itsLines, itsPlaces);
            }
        }

        private void readThrough() {
            if (throughTold) {
                blame(start, 2);
            }
            throughTold = true;
            int what = readWhat();
            int amount = 0;
            if (what == BY_SOME || what == BY_DAYS) {
                amount = readNumber(1, what == BY_SOME ? land.places : MOST_DAYS);
            }
            int a = what == BY_ALL ? 0 : readPlace(NONE);
            int b = what == BY_ALL || what == BY_SOME ? 0 : readPlace(a);
            land.countBy(what, amount, a, b);
        }

        private int readWhat() {
            readWord();
            if (isWord("one")) {
                return BY_ONE;
            } else if (isWord("some")) {
                return BY_SOME;
            } else if (isWord("days")) {
                return BY_DAYS;
            } else if (isWord("two")) {
                return BY_TWO;
            } else if (!isWord("all")) {
                blame(start, 0);
            }
            return BY_ALL;
        }
    }

    /** PLACES and LINES alone: what is led to by a set of OPEN LINES. */
    static final class Roads {
        private static final int FAR = 1000;
        int lines;
        int allPlaces;
        int needed;
        private int places;
        private final Land land;
        final int[] touches = new int[MOST_LINES + 1];
        private final int[] outOf = new int[MOST_LINES + 1];
        private final int[] into = new int[MOST_LINES + 1];
        private final int[] far = new int[MOST_PLACES];
        private final int[] near = new int[MOST_PLACES];

        Roads(Land itsLand) {
            land = itsLand;
        }

        void follow() {
            places = land.places;
            lines = land.lines;
            allPlaces = (1 << places) - 1;
            needed = neededPlaces();
            for (int i = 0; i < lines; i++) {
                int a = 1 << land.from[i];
                int b = 1 << land.to[i];
                touches[i] = a | b;
                outOf[i] = land.oneWay[i] == 0 ? a | b : a;
                into[i] = land.oneWay[i] == 0 ? a | b : b;
            }
        }

        private int neededPlaces() {
            switch (land.what) {
                case BY_ALL: return allPlaces;
                case BY_SOME: return 1 << land.first;
                default: return 1 << land.first | 1 << land.second;
            }
        }

        /** PLACES that are led to from one: a LINE is gone along from its gates to its ends. */
        private int reached(int start, int open, int[] gates) {
            int found = 1 << start;
            for (int round = 1; round < places; round++) {
                int before = found;
                for (int i = 0; i < lines; i++) {
                    if ((open >> i & 1) != 0 && (found & gates[i]) != 0) {
                        found |= touches[i];
                    }
                }
                if (found == before) {
                    break;
                }
            }
            return found;
        }

        boolean leads(int a, int b, int open) {
            return (reached(a, open, outOf) >> b & 1) != 0;
        }

        /** The fewest DAYS from a to b, or FAR. */
        int daysBetween(int a, int b, int open) {
            Arrays.fill(far, FAR);
            far[a] = 0;
            for (int round = 1; round < places; round++) {
                boolean shorter = false;
                for (int i = 0; i < lines; i++) {
                    if ((open >> i & 1) != 0) {
                        shorter |= goAlong(i);
                    }
                }
                if (!shorter) {
                    break;
                }
            }
            return far[b];
        }

        private boolean goAlong(int i) {
            int a = land.from[i];
            int b = land.to[i];
            int length = land.days[i];
            if (far[a] + length < far[b]) {
                far[b] = far[a] + length;
                return true;
            }
            if (land.oneWay[i] == 0 && far[b] + length < far[a]) {
                far[a] = far[b] + length;
                return true;
            }
            return false;
        }

        /** Is it THROUGH by these OPEN LINES, if the PLACES that are needed STAND. */
        boolean carries(int open) {
            int a = land.first;
            int b = land.second;
            switch (land.what) {
                case BY_ONE: return leads(a, b, open);
                case BY_ALL: return reached(0, open, outOf) == allPlaces && reached(0, open, into) == allPlaces;
                case BY_SOME: return Integer.bitCount(reached(a, open, outOf)) >= land.amount;
                case BY_DAYS: return daysBetween(a, b, open) <= land.amount;
                default: return leads(a, b, open) && leadsWithoutAny(a, b, open);
            }
        }

        // Two ways without a common LINE are there if and only if no single LINE stops it (Menger).
        private boolean leadsWithoutAny(int a, int b, int open) {
            for (int i = 0; i < lines; i++) {
                if ((open >> i & 1) != 0 && (reached(a, open ^ 1 << i, outOf) >> b & 1) == 0) {
                    return false;
                }
            }
            return true;
        }

        int joiningTrees() {
            int found = 0;
            for (int open = 0; open < 1 << lines; open++) {
                if (Integer.bitCount(open) == places - 1 && reached(0, open, touches) == allPlaces) {
                    found++;
                }
            }
            return found;
        }

        /** How many LINES are left of JOINED: kept as neighbours, of several between two PLACES one is left at once. */
        int joinedFor(int a, int b) {
            Arrays.fill(near, 0);
            for (int i = 0; i < lines; i++) {
                near[land.from[i]] |= 1 << land.to[i];
                near[land.to[i]] |= 1 << land.from[i];
            }
            for (int round = 0; round <= lines; round++) {
                for (int p = 0; p < places; p++) {
                    if (p != a && p != b) {
                        joinAt(p);
                    }
                }
            }
            int twice = 0;
            for (int p = 0; p < places; p++) {
                twice += Integer.bitCount(near[p]);
            }
            return twice / 2;
        }

        private void joinAt(int p) {
            int others = near[p];
            if (Integer.bitCount(others) > 2) {
                return;
            }
            near[p] = 0;
            for (int q = 0; q < places; q++) {
                if ((others >> q & 1) != 0) {
                    near[q] = (near[q] | others) & ~(1 << p | 1 << q);
                }
            }
        }
    }

    /** THINGS by what falls with them: LINES (12 bits), and above these PLACES. */
    static final class Things {
        int count;
        final int[] chance = new int[MOST_THINGS];
        final int[] harm = new int[MOST_THINGS];
        private final Land land;
        private final Roads roads;

        Things(Land itsLand, Roads itsRoads) {
            land = itsLand;
            roads = itsRoads;
        }

        /** The THINGS of the LAND; apart: with a CAUSE of its own for each ITEM. */
        void take(boolean apart) {
            count = 0;
            for (int i = 0; i < land.lines; i++) {
                put(land.lineChance[i], 1 << i, 0);
            }
            for (int k = 0; k < land.keepers; k++) {
                put(land.keeperChance[k], 0, 1 << land.keptPlace[k]);
            }
            for (int c = 0; c < land.causes; c++) {
                if (apart) {
                    putApart(land.causeChance[c], land.namedLines[c], land.namedPlaces[c]);
                } else {
                    put(land.causeChance[c], land.namedLines[c], land.namedPlaces[c]);
                }
            }
        }

        private void putApart(int itsChance, int itsLines, int itsPlaces) {
            for (int i = 0; i < MOST_LINES; i++) {
                if ((itsLines >> i & 1) != 0) {
                    put(itsChance, 1 << i, 0);
                }
            }
            for (int p = 0; p < MOST_PLACES; p++) {
                if ((itsPlaces >> p & 1) != 0) {
                    put(itsChance, 0, 1 << p);
                }
            }
        }

        private void put(int itsChance, int itsLines, int itsPlaces) {
            int shut = itsLines;
            for (int i = 0; i < roads.lines; i++) {
                if ((roads.touches[i] & itsPlaces) != 0) {
                    shut |= 1 << i;
                }
            }
            if (count < MOST_THINGS) {
                chance[count] = itsChance;
                harm[count] = shut | itsPlaces << MOST_LINES;
                count++;
            }
        }

        int harmIn(int set) {
            int sum = 0;
            for (int t = 0; t < count; t++) {
                if ((set >> t & 1) == 0) {
                    sum |= harm[t];
                }
            }
            return sum;
        }

        /** The product of the CHANCES of THINGS from the first on, as a SET has them. */
        long product(int set, int first) {
            long product = 1;
            for (int t = first; t < count; t++) {
                product *= (set >> t & 1) != 0 ? chance[t] : SURE - chance[t];
            }
            return product;
        }
    }

    /** All SETS of the THINGS of a LAND: what falls in each, its CHANCE, and whether it is THROUGH. */
    static final class Sets {
        final Roads roads;
        final Things things;
        int size;
        int allLines;
        /** The CHANCE of each SET; row lengths grow with the LANDS that are asked about. */
        long[] odds = new long[1];
        /** The CHANCES of SETS with just these LINES OPEN, together. */
        long[] openOdds = new long[1];
        private int[] harm = new int[1];
        private byte[] carries = new byte[1];
        private final Things apart;

        Sets(Land land) {
            roads = new Roads(land);
            things = new Things(land, roads);
            apart = new Things(land, roads);
        }

        static long power(int things) {
            return 1L << 4 * things;
        }

        static long times(int base, int exponent) {
            long product = 1;
            for (int i = 0; i < exponent; i++) {
                product *= base;
            }
            return product;
        }

        /** Is a CHANCE over 16^things n sixteenths or more; 16 times it would not always fit into 64 bits. */
        static boolean isSixteenths(long chance, int n, int things) {
            if (things == 0) {
                return chance * SURE >= n;
            }
            return chance >= n * power(things - 1);
        }

        void workOut() {
            roads.follow();
            things.take(false);
            size = 1 << things.count;
            allLines = (1 << roads.lines) - 1;
            makeRoom(size, allLines + 1);
            for (int open = 0; open <= allLines; open++) {
                carries[open] = (byte) (roads.carries(open) ? 1 : 0);
            }
            spread();
            Arrays.fill(openOdds, 0);
            for (int s = 0; s < size; s++) {
                openOdds[openIn(s)] += odds[s];
            }
        }

        private void makeRoom(int allSets, int lineSets) {
            if (odds.length < allSets) {
                odds = new long[allSets];
                harm = new int[allSets];
            }
            if (carries.length < lineSets) {
                carries = new byte[lineSets];
                openOdds = new long[lineSets];
            }
        }

        /** Fills odds and harm THING by THING: each parts all SETS of those ahead of it. */
        private void spread() {
            odds[0] = 1;
            harm[0] = 0;
            for (int t = 0; t < things.count; t++) {
                int half = 1 << t;
                int itsChance = things.chance[t];
                for (int s = 0; s < half; s++) {
                    odds[s + half] = odds[s] * itsChance;
                    harm[s + half] = harm[s];
                    odds[s] *= SURE - itsChance;
                    harm[s] |= things.harm[t];
                }
            }
        }

        int openIn(int set) {
            return allLines & ~harm[set];
        }

        boolean stand(int set, int itsPlaces) {
            return (harm[set] >> MOST_LINES & itsPlaces) == 0;
        }

        boolean isThrough(int set) {
            return isThroughAfter(harm[set]);
        }

        private boolean isThroughAfter(int itsHarm) {
            return (itsHarm >> MOST_LINES & roads.needed) == 0 && carries[allLines & ~itsHarm] != 0;
        }

        /** The CHANCE that it is THROUGH, and of some THINGS just those HOLD that are told. */
        long throughIn(int some, int holding) {
            long sum = 0;
            for (int s = 0; s < size; s++) {
                if ((s & some) == holding && isThrough(s)) {
                    sum += odds[s];
                }
            }
            return sum;
        }

        /** The CHANCE with a THING as sure: that of a SET of all others is a sixteenth of the two with and without it. */
        long given(int thing, boolean holds) {
            int bit = 1 << thing;
            long sum = 0;
            for (int s = 0; s < size; s++) {
                if ((s & bit) == 0 && isThrough(holds ? s | bit : s)) {
                    sum += odds[s] + odds[s | bit];
                }
            }
            return sum / SURE;
        }

        long weightOf(int thing) {
            return given(thing, true) - given(thing, false);
        }

        int decidesIn(int thing) {
            int bit = 1 << thing;
            int found = 0;
            for (int s = 0; s < size; s++) {
                if ((s & bit) == 0 && isThrough(s | bit) && !isThrough(s)) {
                    found++;
                }
            }
            return found;
        }

        int lineSetsOf(int k) {
            int others = size - 1 & ~allLines;
            int found = 0;
            for (int s = 0; s <= allLines; s++) {
                if (Integer.bitCount(s) == k && isThrough(s | others)) {
                    found++;
                }
            }
            return found;
        }

        int drawn(int seed, int n) {
            long x = seed;
            int found = 0;
            for (int i = 0; i < n; i++) {
                int set = 0;
                for (int t = 0; t < things.count; t++) {
                    x = (x * 1103515245L + 12345L) % 2147483648L;
                    if (x / 65536 % 16 < things.chance[t]) {
                        set |= 1 << t;
                    }
                }
                if (isThrough(set)) {
                    found++;
                }
            }
            return found;
        }

        /** The CHANCE to be THROUGH, if each ITEM of a CAUSE has a CAUSE of its own. */
        long throughApart() {
            apart.take(true);
            long sum = 0;
            for (int s = 0; s < 1 << apart.count; s++) {
                if (isThroughAfter(apart.harmIn(s))) {
                    sum += apart.product(s, 0);
                }
            }
            return sum;
        }
    }

    /** The WAYS, or the CUTS: how many there are, and the first of them. */
    static final class Least {
        int total;
        int told;
        final int[] set = new int[MOST_TOLD];
        private final boolean cuts;
        private final long[] value = new long[MOST_TOLD];
        /** The CHANCE of SETS that have this one, and none ahead of it. */
        private final long[] share = new long[MOST_TOLD];
        private final Sets sets;
        private final Things things;

        Least(Sets itsSets, boolean areCuts) {
            sets = itsSets;
            things = itsSets.things;
            cuts = areCuts;
        }

        void find() {
            total = 0;
            told = 0;
            for (int s = 0; s < sets.size; s++) {
                if (isLeast(s)) {
                    total++;
                    tell(s, valueOf(s));
                }
            }
            shareOut();
        }

        /** The SET that goes with a number: of a CUT those that are not in it HOLD. */
        private int holding(int s) {
            return cuts ? sets.size - 1 ^ s : s;
        }

        private boolean isLeast(int s) {
            int hold = holding(s);
            if (sets.isThrough(hold) == cuts) {
                return false;
            }
            for (int t = 0; t < things.count; t++) {
                if ((s >> t & 1) != 0 && sets.isThrough(hold ^ 1 << t) != cuts) {
                    return false;
                }
            }
            return true;
        }

        private long valueOf(int s) {
            long product = 1;
            for (int t = 0; t < things.count; t++) {
                int itsChance = cuts ? SURE - things.chance[t] : things.chance[t];
                product *= (s >> t & 1) != 0 ? itsChance : SURE;
            }
            return product;
        }

        // SETS come with rising numbers, so one goes behind all that are as great.
        private void tell(int s, long itsValue) {
            int spot = told;
            while (spot > 0 && value[spot - 1] < itsValue) {
                spot--;
            }
            if (spot >= MOST_TOLD) {
                return;
            }
            told = Math.min(told + 1, MOST_TOLD);
            for (int i = told - 1; i > spot; i--) {
                set[i] = set[i - 1];
                value[i] = value[i - 1];
            }
            set[spot] = s;
            value[spot] = itsValue;
        }

        private void shareOut() {
            Arrays.fill(share, 0);
            for (int s = 0; s < sets.size; s++) {
                int firstIn = firstIn(holding(s));
                if (firstIn < told) {
                    share[firstIn] += sets.odds[s];
                }
            }
        }

        private int firstIn(int s) {
            for (int k = 0; k < told; k++) {
                if ((set[k] & ~s) == 0) {
                    return k;
                }
            }
            return told;
        }

        /** The CHANCE that some of the first n WAYS HOLDS (of the first n CUTS has fallen). */
        long someOfFirst(int n) {
            long sum = 0;
            for (int k = 0; k < n && k < told; k++) {
                sum += share[k];
            }
            return sum;
        }
    }

    /** Sets of LINES, with all other THINGS as they may be: what is built, and what is mended. */
    static final class Built {
        /** The CHANCE with a set of LINES built. */
        long[] builtTo = new long[1];
        /** The CHANCE after a set of MENDINGS. */
        long[] mendedTo = new long[1];
        private final Land land;
        private final Notes notes;
        private final Sets sets;
        private int lines;
        /** The CHANCE by all other THINGS that it is THROUGH, if just these LINES HOLD. */
        private long[] bare = new long[1];
        private long[] folded = new long[1];
        private long[] work = new long[1];

        Built(Land itsLand, Notes itsNotes, Sets itsSets) {
            land = itsLand;
            notes = itsNotes;
            sets = itsSets;
        }

        void workOut() {
            lines = land.lines;
            int size = 1 << lines;
            if (bare.length < size) {
                builtTo = new long[size];
                bare = new long[size];
                folded = new long[size];
                work = new long[size];
            }
            fillBare(size);
            System.arraycopy(bare, 0, builtTo, 0, size);
            for (int i = 0; i < lines; i++) {
                buildOrNot(size, 1 << i, land.lineChance[i]);
            }
        }

        private void fillBare(int size) {
            Arrays.fill(bare, 0);
            for (int s = 0; s < sets.size; s += size) {
                long itsOdds = sets.things.product(s, lines);
                for (int k = 0; k < size; k++) {
                    if (sets.isThrough(s | k)) {
                        bare[k] += itsOdds;
                    }
                }
            }
        }

        /** From here on a bit tells whether the LINE is built, no more whether it HOLDS. */
        private void buildOrNot(int size, int bit, int chance) {
            for (int k = 0; k < size; k++) {
                if ((k & bit) == 0) {
                    builtTo[k | bit] = chance * builtTo[k | bit] + (SURE - chance) * builtTo[k];
                    builtTo[k] *= SURE;
                }
            }
        }

        /** PLAN for n sixteenths. */
        int shortest(int n) {
            int best = -2;
            int bestLength = 0;
            long bestChance = 0;
            for (int k = 0; k < 1 << lines; k++) {
                int length = lengthOf(k);
                boolean better = best < 0 || length < bestLength || length == bestLength && builtTo[k] > bestChance;
                if (better && Sets.isSixteenths(builtTo[k], n, land.things())) {
                    best = k;
                    bestLength = length;
                    bestChance = builtTo[k];
                }
            }
            return best;
        }

        private int lengthOf(int set) {
            int sum = 0;
            for (int i = 0; i < lines; i++) {
                sum += (set >> i & 1) * land.days[i];
            }
            return sum;
        }

        void mendAll() {
            int size = 1 << notes.mendings;
            if (mendedTo.length < size) {
                mendedTo = new long[size];
            }
            int touched = notes.linesMended();
            foldUntouched(touched);
            for (int m = 0; m < size; m++) {
                mendedTo[m] = chanceAfter(m, touched);
            }
        }

        /** LINES without a MENDING are folded once for all sets of MENDINGS. */
        private void foldUntouched(int touched) {
            int rest = (1 << lines) - 1;
            System.arraycopy(bare, 0, folded, 0, 1 << lines);
            for (int i = 0; i < lines; i++) {
                if ((touched >> i & 1) == 0) {
                    rest ^= 1 << i;
                    fold(folded, folded, i, land.lineChance[i], rest);
                }
            }
        }

        private long chanceAfter(int mendings, int touched) {
            long[] source = folded;
            int rest = touched;
            for (int i = 0; i < lines; i++) {
                if ((touched >> i & 1) != 0) {
                    rest ^= 1 << i;
                    fold(source, work, i, notes.chanceAfter(mendings, i, land.lineChance[i]), rest);
                    source = work;
                }
            }
            return source[0];
        }

        /** Each set of the rest of the LINES gets its CHANCE with and without LINE i together. */
        private static void fold(long[] source, long[] target, int i, int chance, int rest) {
            int sub = rest;
            for (int n = 0; n <= rest; n++) {
                target[sub] = chance * source[sub | 1 << i] + (SURE - chance) * source[sub];
                if (sub == 0) {
                    break;
                }
                sub = sub - 1 & rest;
            }
        }

        /** BEST for so many coins. */
        int bestMended(int coins) {
            int best = 0;
            int bestCost = 0;
            for (int m = 1; m < 1 << notes.mendings; m++) {
                int cost = notes.coinsOf(m);
                boolean better = mendedTo[m] > mendedTo[best] || mendedTo[m] == mendedTo[best] && cost < bestCost;
                if (better && cost <= coins) {
                    best = m;
                    bestCost = cost;
                }
            }
            return best;
        }
    }

    /** What LETTERS tell, and how many DAYS one takes. */
    static final class Mail {
        private final Notes notes;
        private final Sets sets;
        /** 1 where all LETTERS are as told with these LINES OPEN. */
        private byte[] agrees = new byte[1];
        private int dayFrom = NONE;
        private int dayTo = NONE;
        /** The CHANCE that it takes just so many DAYS. */
        private final long[] byDays = new long[MOST_DAYS + 1];

        Mail(Notes itsNotes, Sets itsSets) {
            notes = itsNotes;
            sets = itsSets;
        }

        void compare() {
            if (agrees.length <= sets.allLines) {
                agrees = new byte[sets.allLines + 1];
            }
            for (int open = 0; open <= sets.allLines; open++) {
                agrees[open] = (byte) (isAsTold(open) ? 1 : 0);
            }
        }

        // From a PLACE to another one: if OPEN LINES lead there, both STAND.
        private boolean isAsTold(int open) {
            for (int i = 0; i < notes.letters; i++) {
                boolean comes = sets.roads.leads(notes.letterFrom[i], notes.letterTo[i], open);
                if (comes != (notes.came[i] != 0)) {
                    return false;
                }
            }
            return true;
        }

        /** The CHANCES of SETS that AGREE in which these THINGS HOLD, together. */
        long agreeing(int holding) {
            long sum = 0;
            for (int s = 0; s < sets.size; s++) {
                if ((s & holding) == holding && agrees[sets.openIn(s)] != 0) {
                    sum += sets.odds[s];
                }
            }
            return sum;
        }

        int lookFirst() {
            long all = agreeing(0);
            if (all == 0) {
                return NONE;
            }
            int best = NONE;
            long least = 0;
            for (int t = 0; t < sets.things.count; t++) {
                long difference = Math.abs(2 * agreeing(1 << t) - all);
                if (best == NONE || difference < least) {
                    best = t;
                    least = difference;
                }
            }
            return best;
        }

        boolean isFor(int a, int b) {
            return dayFrom == a && dayTo == b;
        }

        void travel(int a, int b) {
            dayFrom = a;
            dayTo = b;
            Arrays.fill(byDays, 0);
            for (int open = 0; open <= sets.allLines; open++) {
                int d = sets.roads.daysBetween(a, b, open);
                if (d <= MOST_DAYS) {
                    byDays[d] += sets.openOdds[open];
                }
            }
        }

        long cameWithin(int d) {
            long sum = 0;
            for (int i = 0; i <= d && i <= MOST_DAYS; i++) {
                sum += byDays[i];
            }
            return sum;
        }

        long daysTogether() {
            long sum = 0;
            for (int i = 1; i <= MOST_DAYS; i++) {
                sum += i * byDays[i];
            }
            return sum;
        }
    }

    /** NEW: the pair of PLACES between which a LINE more does most. */
    static final class Extra {
        static final int MOST_WITH = 10;
        int bestA;
        int bestB;
        /** The CHANCE to be THROUGH if the NEW LINE there HOLDS. */
        long bestChance;
        private final Land land;
        private final Sets sets;
        private final Land wide = new Land();
        private final Roads roads = new Roads(wide);
        private byte[] carries = new byte[1];

        Extra(Land itsLand, Sets itsSets) {
            land = itsLand;
            sets = itsSets;
        }

        void tryAll() {
            if (carries.length <= sets.allLines) {
                carries = new byte[sets.allLines + 1];
            }
            bestChance = NONE;
            for (int a = 0; a < land.places; a++) {
                for (int b = a + 1; b < land.places; b++) {
                    long found = chanceWith(a, b);
                    if (found > bestChance) {
                        bestA = a;
                        bestB = b;
                        bestChance = found;
                    }
                }
            }
        }

        private long chanceWith(int a, int b) {
            wide.copyOf(land);
            wide.addLine(a, b, SURE, 0, 1);
            roads.follow();
            for (int open = 0; open <= sets.allLines; open++) {
                carries[open] = (byte) (roads.carries(open | 1 << land.lines) ? 1 : 0);
            }
            long sum = 0;
            for (int s = 0; s < sets.size; s++) {
                if (isThroughWith(s, 1 << a | 1 << b)) {
                    sum += sets.odds[s];
                }
            }
            return sum;
        }

        private boolean isThroughWith(int s, int itsPlaces) {
            if (!sets.stand(s, itsPlaces)) {
                return sets.isThrough(s);
            }
            return sets.stand(s, roads.needed) && carries[sets.openIn(s)] != 0;
        }
    }

    /** LOOKS: how many are needed from each state of knowledge. */
    static final class Looks {
        static final int MOST_WITH = 9;
        private static final int[] POWERS = {1, 3, 9, 27, 81, 243, 729, 2187, 6561, 19683};
        private final Sets sets;
        private int things;
        // By a number of base 3, a digit for each THING: 0 it has fallen, 1 it HOLDS, 2 not looked at yet.
        private byte[] needed = new byte[1];

        Looks(Sets itsSets) {
            sets = itsSets;
        }

        /** A state with one digit less of 2 has a lesser number, so it is known ahead. */
        void workOut() {
            things = Math.min(sets.things.count, MOST_WITH);
            if (needed.length < POWERS[things]) {
                needed = new byte[POWERS[things]];
            }
            for (int state = 0; state < POWERS[things]; state++) {
                needed[state] = (byte) (isSure(state) ? 0 : leastFrom(state));
            }
        }

        /** With more THINGS that HOLD it stays THROUGH, so the two ends tell for all between. */
        private boolean isSure(int state) {
            int hold = 0;
            int open = 0;
            int rest = state;
            for (int t = 0; t < things; t++) {
                hold |= rest % 3 == 1 ? 1 << t : 0;
                open |= rest % 3 == 2 ? 1 << t : 0;
                rest /= 3;
            }
            return sets.isThrough(hold) == sets.isThrough(hold | open);
        }

        private int leastFrom(int state) {
            int least = things;
            int rest = state;
            for (int t = 0; t < things; t++) {
                if (rest % 3 == 2) {
                    least = Math.min(least, neededBy(state, t));
                }
                rest /= 3;
            }
            return least;
        }

        private int neededBy(int state, int thing) {
            return 1 + Math.max(needed[state - POWERS[thing]], needed[state - 2 * POWERS[thing]]);
        }

        int fewest() {
            return needed[POWERS[things] - 1];
        }

        int firstThing() {
            int start = POWERS[things] - 1;
            if (needed[start] == 0) {
                return NONE;
            }
            for (int t = 0; t < things; t++) {
                if (neededBy(start, t) == needed[start]) {
                    return t;
                }
            }
            return NONE;
        }
    }
}
