/** People of slants and weights in a row of seats, as the document's promises tell. */
public final class ItalicsLean {
    public static final int NONE = -1;

    /** What calls answer for what isn't there, where NONE could be an answer of its own. */
    private static final int NO_SUCH = -2;
    private static final int NO_NUMBER = -100;
    private static final int UNHEARD = -10000;

    private static final int MOST_PEOPLE = 5;
    private static final int MOST_SLANT = 9;
    private static final int SLANTS = 19;
    private static final int MOST_WEIGHT = 9;
    private static final int LAST_YEAR = 9999;
    private static final int MOST_YEARS = 60;
    private static final int MOST_STILL = 200;
    private static final int FIRST_X = 317;
    private static final int MOST_SEED = 9999;
    private static final int MOST_AGES = 40;
    private static final int MOST_BOOKED = 30;
    private static final int MOST_STEPS = 30;
    /** A row as it is kept for a step: six numbers, slants, sitters and the book. */
    private static final int SAVED_SIZE = 6 + 2 * MOST_PEOPLE + MOST_BOOKED;

    private static final int MOST_TEXTS = 4;
    private static final int MOST_BYTES = 300;
    private static final int FED_BYTES = 20;
    private static final int MOST_CLAUSES = 24;
    private static final int MOST_NUMBER = 9999;
    private static final int MOST_OPEN = 8;
    private static final int MOST_RECKONED = 1000000;
    private static final int MOST_HEARD_AS = 999;
    /** Nine levels (none open to eight), each with six values waiting at most. */
    private static final int STACK_SIZE = 64;

    private static final int WORDS_SAID = 100;
    private static final int MOST_WORDS = 10;
    private static final int WIDEST_WORD = 20;
    private static final int WIDEST_PAGE = 60;
    private static final int MOST_HEARD = 6;
    private static final int MOST_ERR = 9;
    private static final int MOST_SAID = 8;
    private static final int MOST_ODDS_YEARS = 20;
    private static final int[] FACTORIAL = {1, 1, 2, 6, 24, 120};

    /** Kinds of clauses. */
    private static final int NO_CLAUSE = 0;
    private static final int LEANS = 1;
    private static final int HEARS = 2;
    private static final int PERSON = 3;
    private static final int RACK = 4;
    private static final int SWAP = 5;
    private static final int TURN = 6;
    private static final int PROP = 7;
    private static final int FREE = 8;
    private static final int YEAR = 9;

    /** Kinds of tokens; a sign's kind is its byte, that of a sign with = behind it WITH_EQUAL more. */
    private static final int THE_END = 0;
    private static final int NUMBER = 1;
    private static final int LETTERS = 2;
    private static final int NO_TOKEN = 3;
    private static final int WITH_EQUAL = 256;

    /** What a law is made of: these, then the names, then the numbers. */
    private static final int STOP = 0;
    private static final int ADD = 1;
    private static final int SUBTRACT = 2;
    private static final int MULTIPLY = 3;
    private static final int DIVIDE = 4;
    private static final int NEGATE = 5;
    private static final int STEP = 6;
    private static final int SEAT = 7;
    private static final int LESS = 8;
    private static final int AT_MOST = 9;
    private static final int MORE = 10;
    private static final int AT_LEAST = 11;
    private static final int ALIKE = 12;
    private static final int UNLIKE = 13;
    private static final int NOT = 14;
    private static final int AND = 15;
    private static final int OR = 16;
    private static final int JUMP = 17;
    private static final int JUMP_UNLESS = 18;
    private static final int FIRST_NAME = 32;
    private static final int FIRST_NUMBER = 64;

    /** Names of laws: the first five in both, then two of leans, then two of hears. */
    private static final int NAME_YEAR = 0;
    private static final int NAME_WIND = 1;
    private static final int NAME_WEIGHT = 2;
    private static final int NAME_WHO = 3;
    private static final int NAME_SLANT = 4;
    private static final int NAME_LEFT = 5;
    private static final int NAME_RIGHT = 6;
    private static final int NAME_WORD = 7;
    private static final int NAME_FROM = 8;
    private static final int NAMES = 9;

    private final Row row = new Row();
    private final Steps steps = new Steps();
    private final Told told = new Told();
    private final Row imageRow = new Row();
    private final Steps imageSteps = new Steps();
    private final Told imageTold = new Told();
    private final Row draft = new Row();
    private final Text[] texts = new Text[MOST_TEXTS];
    private final Reader reader = new Reader();
    private final Laws laws = new Laws();
    private final Page broken = new Page();
    private final Odds odds = new Odds();
    private final int[] seen = new int[MOST_STILL + 1];
    private final int[] order = new int[MOST_PEOPLE];
    /** Made when first asked for: they are large, and many runs never ask. */
    private Turns turns = null;
    private Guess guess = null;

    public ItalicsLean() {
        for (int i = 0; i < MOST_TEXTS; i++) {
            texts[i] = new Text();
        }
    }

    public int person(int slant, int weight) {
        if (!isSlant(slant) || !within(weight, 1, MOST_WEIGHT) || row.people >= MOST_PEOPLE) {
            return NONE;
        }
        row.add(slant, weight);
        return row.people - 1;
    }

    public boolean rack(int seat, int rack) {
        if (!within(seat, 0, MOST_PEOPLE - 1) || !isSlant(rack)) {
            return false;
        }
        told.racks[seat] = rack;
        return true;
    }

    public int feed(int a, int b, int c, int d, int e) {
        if (reader.length + FED_BYTES > MOST_BYTES) {
            return NONE;
        }
        reader.append(a);
        reader.append(b);
        reader.append(c);
        reader.append(d);
        reader.append(e);
        return reader.length;
    }

    public int end(int n) {
        if (!within(n, 0, reader.length)) {
            return NONE;
        }
        reader.length = n;
        return n;
    }

    public int text() {
        if (told.texts >= MOST_TEXTS) {
            return NONE;
        }
        // No image has a text beyond those there are now, so this one's place is free.
        boolean whole = reader.readInto(texts[told.texts]);
        reader.length = 0;
        if (!whole) {
            return NONE;
        }
        told.texts++;
        return told.texts - 1;
    }

    public int fault(int what) {
        if (!reader.hasRead) {
            return NONE;
        }
        switch (what) {
            case 0:
                return reader.fault;
            case 1:
                return reader.place;
            default:
                return NONE;
        }
    }

    public boolean by(int text) {
        if (text != NONE && !isText(text)) {
            return false;
        }
        told.ruling = text;
        return true;
    }

    public boolean swap(int a, int b) {
        if (!row.canChange(a, b)) {
            return false;
        }
        steps.keep(row);
        row.change(a, b);
        return true;
    }

    public boolean turn(int n) {
        if (!within(n, 1, row.people)) {
            return false;
        }
        steps.keep(row);
        row.turnAbout(n);
        return true;
    }

    public boolean prop(int seat, boolean is) {
        if (!row.canSetProp(seat, is)) {
            return false;
        }
        steps.keep(row);
        row.setProp(seat, is);
        return true;
    }

    public int year(int n) {
        if (!within(n, 1, MOST_YEARS) || row.year + n > LAST_YEAR) {
            return NONE;
        }
        return passYears(n);
    }

    public int played(int text) {
        if (!isText(text)) {
            return NO_SUCH;
        }
        Text script = texts[text];
        for (int i = 0; i < script.clauses; i++) {
            if (!perform(script.kinds[i], script.firsts[i], script.seconds[i])) {
                return i;
            }
        }
        return NONE;
    }

    public int ages(int seed, int n) {
        if (!within(seed, 0, MOST_SEED) || !within(n, 1, MOST_AGES)) {
            return NONE;
        }
        steps.keep(row);
        row.x = seed * 2 + FIRST_X;
        for (int i = 0; i < n; i++) {
            int x = row.x;
            row.renewX();
            if (x % 7 >= 4) {
                if (row.year < LAST_YEAR) {
                    laws.pass(row, ruling(), true);
                }
            } else if (row.people > 0) {
                moveInAges(x);
            }
        }
        return row.year;
    }

    public int undo() {
        if (steps.kept == 0) {
            return NONE;
        }
        steps.takeBack(row);
        return steps.kept;
    }

    public int of(int person, int what) {
        if (!row.has(person)) {
            return NO_NUMBER;
        }
        switch (what) {
            case 0:
                return row.slant[person];
            case 1:
                return row.weight[person];
            case 2:
                return row.seatOf(person);
            case 3:
                return laws.leaning(row, person, ruling());
            default:
                return NO_NUMBER;
        }
    }

    public int seat(int seat, int what) {
        if (!row.has(seat)) {
            return NO_NUMBER;
        }
        switch (what) {
            case 0:
                return row.sitter[seat];
            case 1:
                return told.racks[seat];
            case 2:
                return row.isPropped(seat) ? 1 : 0;
            default:
                return NO_NUMBER;
        }
    }

    public int hears(int ear, int from, int word) {
        if (!row.has(ear) || !row.has(from) || !within(word, 0, WORDS_SAID - 1)) {
            return UNHEARD;
        }
        return laws.hearing(row, ear, from, word, ruling());
    }

    public int is(int what) {
        switch (what) {
            case 0:
                return row.year;
            case 1:
                return row.x;
            case 2:
                return row.wind;
            case 3:
                return row.propped;
            default:
                return NO_NUMBER;
        }
    }

    public int book(int i, int what) {
        if (i == NONE) {
            return row.booked;
        }
        if (!within(i, 0, row.booked - 1)) {
            return NO_NUMBER;
        }
        switch (what) {
            case 0:
                return row.bookedYear(i);
            case 1:
                return row.bookedPerson(i);
            case 2:
                return row.bookedWind(i);
            default:
                return NO_NUMBER;
        }
    }

    public int foretold(int n, int person) {
        if (!within(n, 1, MOST_YEARS) || !row.has(person)) {
            return NO_NUMBER;
        }
        draft.copy(row);
        for (int i = 0; i < n && draft.year < LAST_YEAR; i++) {
            laws.pass(draft, ruling(), true);
        }
        return draft.slant[person];
    }

    public int still(int wind, boolean cycle) {
        if (!isSlant(wind)) {
            return NONE;
        }
        draft.copy(row);
        draft.wind = wind;
        for (int late = 0; late <= MOST_STILL; late++) {
            int slants = draft.packedSlants();
            for (int early = 0; early < late; early++) {
                if (seen[early] == slants) {
                    return cycle ? late - early : early;
                }
            }
            seen[late] = slants;
            laws.pass(draft, ruling(), false);
        }
        return NONE;
    }

    public int upright(int person, int wind) {
        if (!row.has(person) || !isSlant(wind)) {
            return NONE;
        }
        draft.copy(row);
        draft.wind = wind;
        for (int i = 0; i <= MOST_YEARS; i++) {
            if (draft.slant[person] == 0) {
                return i;
            }
            laws.pass(draft, ruling(), false);
        }
        return NONE;
    }

    public int byTurns(int i) {
        if (turns == null) {
            turns = new Turns();
        }
        turns.prepare(row.people);
        return turns.answer(row, i);
    }

    public int seats(boolean sum, int i) {
        if (row.people == 0 || (!sum && !row.has(i))) {
            return NO_SUCH;
        }
        int best = 0;
        int least = 0;
        for (int rank = 0; rank < FACTORIAL[row.people]; rank++) {
            unrank(rank, row.people, order);
            int cost = costOfOrder();
            // Ranks go by the lowest person first, so only a lesser sum takes the place.
            if (rank == 0 || cost < least) {
                best = rank;
                least = cost;
            }
        }
        if (sum) {
            return least;
        }
        unrank(best, row.people, order);
        return order[i];
    }

    public int ragged(int i) {
        int pairs = 0;
        for (int seat = 0; seat + 1 < row.people; seat++) {
            if (row.slantIn(seat) > 0 && row.slantIn(seat + 1) < 0) {
                if (pairs == i) {
                    return seat;
                }
                pairs++;
            }
        }
        return i == NONE ? pairs : NO_SUCH;
    }

    public int word(int width) {
        if (width == NONE) {
            told.words = 0;
            return 0;
        }
        if (!within(width, 1, WIDEST_WORD) || told.words >= MOST_WORDS) {
            return NO_SUCH;
        }
        told.widths[told.words] = width;
        told.words++;
        return told.words;
    }

    public int page(int width, int what) {
        if (!within(width, 1, WIDEST_PAGE) || !broken.breakLines(told, width)) {
            return NONE;
        }
        switch (what) {
            case 0:
                return broken.badness[0];
            case 1:
                return broken.lines[0];
            default:
                return NONE;
        }
    }

    public int line(int width, int i) {
        if (!within(width, 1, WIDEST_PAGE) || !broken.breakLines(told, width)) {
            return NONE;
        }
        return broken.beginning(i);
    }

    public int narrowest(int lines) {
        if (!within(lines, 1, MOST_WORDS) || told.words == 0) {
            return NONE;
        }
        return broken.leastWidth(told, lines);
    }

    public int heard(int ear, int as) {
        if (ear == NONE) {
            told.heard = 0;
            return 0;
        }
        if (!row.has(ear) || !within(as, -MOST_HEARD_AS, MOST_HEARD_AS) || told.heard >= MOST_HEARD) {
            return NO_SUCH;
        }
        told.heardWho[told.heard] = ear;
        told.heardAs[told.heard] = as;
        told.heard++;
        return told.heard;
    }

    public int meant(int err, int what) {
        if (!within(err, 0, MOST_ERR)) {
            return NONE;
        }
        Guess fitting = gatherPairs(err);
        switch (what) {
            case 0:
                return fitting.count;
            case 1:
                return fitting.count == 0 ? NONE : fitting.pairs[0];
            default:
                return NONE;
        }
    }

    public int listen(int err) {
        if (!within(err, 0, MOST_ERR)) {
            return NONE;
        }
        Guess fitting = gatherPairs(err);
        if (fitting.count < 2) {
            return NONE;
        }
        int best = NONE;
        int fewest = 0;
        for (int person = 0; person < row.people; person++) {
            int left = fitting.mostLeft(row, person, ruling());
            if (best == NONE || left < fewest) {
                best = person;
                fewest = left;
            }
        }
        return best;
    }

    public boolean bar(int seat, boolean is) {
        if (!within(seat, 0, MOST_PEOPLE - 1)) {
            return false;
        }
        told.barred = withBit(told.barred, seat, is);
        return true;
    }

    public int props(boolean many) {
        int all = (1 << row.people) - 1;
        int best = NONE;
        for (int set = 0; set <= all; set++) {
            boolean covers = ((set | set << 1 | set >> 1) & all) == all;
            if (covers && (set & told.barred) == 0
                    && (best == NONE || Integer.bitCount(set) < Integer.bitCount(best))) {
                best = set;
            }
        }
        if (best == NONE) {
            return NONE;
        }
        return many ? Integer.bitCount(best) : best;
    }

    public long likely(int from, int n, int to, boolean low) {
        if (!isSlant(from) || !within(n, 0, MOST_ODDS_YEARS) || !isSlant(to)) {
            return NONE;
        }
        odds.spreadOut(from, n, false);
        return odds.share(n, to, low);
    }

    public long first(int from, int n, boolean low) {
        if (!isSlant(from) || !within(n, 0, MOST_ODDS_YEARS)) {
            return NONE;
        }
        odds.spreadOut(from, n, true);
        return odds.share(n, 0, low);
    }

    public int median() {
        if (row.people == 0) {
            return NO_NUMBER;
        }
        int middle = (row.people - 1) / 2;
        int below = 0;
        for (int slant = -MOST_SLANT; slant <= MOST_SLANT; slant++) {
            below += row.howManyLean(slant);
            if (below > middle) {
                return slant;
            }
        }
        return NO_NUMBER;
    }

    public int spread() {
        if (row.people == 0) {
            return 0;
        }
        int least = MOST_SLANT;
        int greatest = -MOST_SLANT;
        for (int person = 0; person < row.people; person++) {
            least = Math.min(least, row.slant[person]);
            greatest = Math.max(greatest, row.slant[person]);
        }
        return greatest - least;
    }

    public int quarrel(int a, int b) {
        if (!row.has(a) || !row.has(b) || a == b) {
            return NONE;
        }
        // Whoever leaves both alike but for fours can do so again after every answer, down to 0 and 0.
        return Math.abs(row.slant[a]) % 4 == Math.abs(row.slant[b]) % 4 ? 0 : 1;
    }

    public int said(int person, int leans) {
        if (person == NONE) {
            told.said = 0;
            return 0;
        }
        if (!row.has(person) || !isSlant(leans) || told.said >= MOST_SAID) {
            return NO_SUCH;
        }
        told.saidWho[told.said] = person;
        told.saidLeans[told.said] = leans;
        told.said++;
        return told.said;
    }

    public int whose() {
        int bits = 0;
        for (int text = 0; text < told.texts; text++) {
            if (agrees(texts[text])) {
                bits |= 1 << text;
            }
        }
        return bits;
    }

    public int straight() {
        int bits = 0;
        for (int person = 0; person < row.people; person++) {
            if (row.slant[person] == 0) {
                bits |= 1 << person;
            }
        }
        return bits;
    }

    public int steepest() {
        int best = NONE;
        int farthest = 0;
        for (int person = 0; person < row.people; person++) {
            int far = Math.abs(row.slant[person]);
            if (far > farthest) {
                best = person;
                farthest = far;
            }
        }
        return best;
    }

    public int ledger(int person) {
        if (person == NONE) {
            return row.booked;
        }
        if (!row.has(person)) {
            return NO_SUCH;
        }
        int often = 0;
        for (int i = 0; i < row.booked; i++) {
            if (row.bookedPerson(i) == person) {
                often++;
            }
        }
        return often;
    }

    public int image() {
        imageRow.copy(row);
        imageSteps.copy(steps);
        imageTold.copy(told);
        return row.year;
    }

    public int back() {
        row.copy(imageRow);
        steps.copy(imageSteps);
        told.copy(imageTold);
        return row.year;
    }

    public int about(int what) {
        switch (what) {
            case 0:
                return row.people;
            case 1:
                return told.texts;
            case 2:
                return told.ruling;
            case 3:
                return steps.kept;
            case 4:
                return told.words;
            case 5:
                return told.heard;
            case 6:
                return told.said;
            case 7:
                return reader.length;
            default:
                return NO_SUCH;
        }
    }

    private static boolean within(int n, int least, int most) {
        return n >= least && n <= most;
    }

    private static boolean isSlant(int n) {
        return within(n, -MOST_SLANT, MOST_SLANT);
    }

    private static int clamp(int n, int most) {
        if (n > most) {
            return most;
        }
        return n < -most ? -most : n;
    }

    private static int withBit(int bits, int bit, boolean is) {
        return is ? bits | 1 << bit : bits & ~(1 << bit);
    }

    private boolean isText(int text) {
        return within(text, 0, told.texts - 1);
    }

    /** The text that rules, or null. */
    private Text ruling() {
        return isText(told.ruling) ? texts[told.ruling] : null;
    }

    /** Lets n years pass that can, each a step; tells how often anybody came to stand straight. */
    private int passYears(int n) {
        int straightened = 0;
        for (int i = 0; i < n; i++) {
            steps.keep(row);
            straightened += laws.pass(row, ruling(), true);
        }
        return straightened;
    }

    /** Does one clause as by hand; false if it can't be. */
    private boolean perform(int kind, int a, int b) {
        switch (kind) {
            case PERSON:
                return person(a - MOST_SLANT, b) != NONE;
            case RACK:
                return rack(b, a - MOST_SLANT);
            case SWAP:
                return swap(a, b);
            case TURN:
                return turn(a);
            case PROP:
                return prop(a, true);
            case FREE:
                return prop(a, false);
            case YEAR:
                int can = Math.min(a, LAST_YEAR - row.year);
                passYears(can);
                return can == a;
            default:
                return true;
        }
    }

    /** What a draw of ages does that isn't a year; there are people then. */
    private void moveInAges(int x) {
        int people = row.people;
        if (people <= 0) {
            return;
        }
        int seat = x % people;
        int other = x / 7 % people;
        switch (x % 7) {
            case 0:
                if (row.canChange(seat, other)) {
                    row.change(seat, other);
                }
                break;
            case 1:
                row.turnAbout(1 + other);
                break;
            case 2:
                row.setProp(seat, true);
                break;
            case 3:
                row.setProp(seat, false);
                break;
            default:
                break;
        }
    }

    private int costOfOrder() {
        int cost = 0;
        for (int seat = 0; seat < row.people; seat++) {
            int person = order[seat];
            cost += row.weight[person] * Math.abs(row.slant[person] - told.racks[seat]);
        }
        return cost;
    }

    private Guess gatherPairs(int err) {
        if (guess == null) {
            guess = new Guess(laws);
        }
        guess.gather(row, told, ruling(), err);
        return guess;
    }

    private boolean agrees(Text text) {
        for (int i = 0; i < told.said; i++) {
            if (laws.leaning(row, told.saidWho[i], text) != told.saidLeans[i]) {
                return false;
            }
        }
        return true;
    }

    /** The place of an order among all orders of so many, the lowest in front first. */
    private static int rankOf(int[] order, int count) {
        int rank = 0;
        for (int i = 0; i < count; i++) {
            int lower = 0;
            for (int k = i + 1; k < count; k++) {
                if (order[k] < order[i]) {
                    lower++;
                }
            }
            rank += lower * FACTORIAL[count - 1 - i];
        }
        return rank;
    }

    private static void unrank(int rank, int count, int[] into) {
        int rest = rank;
        int taken = 0;
        for (int i = 0; i < count; i++) {
            int block = FACTORIAL[count - 1 - i];
            int skip = rest / block;
            rest = rest % block;
            for (int k = 0; k < count; k++) {
                if ((taken >> k & 1) != 0) {
                    continue;
                }
                if (skip == 0) {
                    into[i] = k;
                    taken |= 1 << k;
                    break;
                }
                skip--;
            }
        }
    }

    /** Who sits where and how, and what years have done. */
    private static final class Row {
        int people = 0;
        int propped = 0;
        int wind = 0;
        int year = 0;
        int x = FIRST_X;
        int booked = 0;
        final int[] slant = new int[MOST_PEOPLE];
        final int[] weight = new int[MOST_PEOPLE];
        /** Slants as people were told: taking back a step needs them. */
        final int[] asTold = new int[MOST_PEOPLE];
        /** By seat, the person in it. */
        final int[] sitter = new int[MOST_PEOPLE];
        /** The eldest first; year, person and wind in one number, so that steps are small to keep. */
        final int[] book = new int[MOST_BOOKED];

        /** People and seats are as many, so this tells of either. */
        boolean has(int n) {
            return n >= 0 && n < people;
        }

        void add(int itsSlant, int itsWeight) {
            if (people >= MOST_PEOPLE) {
                return;
            }
            slant[people] = itsSlant;
            asTold[people] = itsSlant;
            weight[people] = itsWeight;
            sitter[people] = people;
            people++;
        }

        int slantIn(int seat) {
            return seat >= 0 && seat < people ? slant[sitter[seat]] : 0;
        }

        int seatOf(int person) {
            for (int seat = 0; seat < people; seat++) {
                if (sitter[seat] == person) {
                    return seat;
                }
            }
            return NONE;
        }

        boolean isPropped(int seat) {
            return (propped >> seat & 1) != 0;
        }

        boolean canChange(int a, int b) {
            return a != b && has(a) && has(b);
        }

        void change(int a, int b) {
            int who = sitter[a];
            sitter[a] = sitter[b];
            sitter[b] = who;
        }

        void turnAbout(int n) {
            for (int low = 0, high = n - 1; low < high; low++, high--) {
                change(low, high);
            }
            for (int seat = 0; seat < n; seat++) {
                int who = sitter[seat];
                slant[who] = -slant[who];
            }
        }

        boolean canSetProp(int seat, boolean is) {
            return has(seat) && isPropped(seat) != is;
        }

        void setProp(int seat, boolean is) {
            propped = withBit(propped, seat, is);
        }

        void renewX() {
            x = (x * 577 + 449) % 30809;
        }

        void drawWind() {
            wind = x % SLANTS - MOST_SLANT;
            renewX();
        }

        void write(int person) {
            if (booked == MOST_BOOKED) {
                System.arraycopy(book, 1, book, 0, MOST_BOOKED - 1);
                booked--;
            }
            book[booked] = (year * MOST_PEOPLE + person) * SLANTS + wind + MOST_SLANT;
            booked++;
        }

        int bookedYear(int i) {
            return book[i] / (SLANTS * MOST_PEOPLE);
        }

        int bookedPerson(int i) {
            return book[i] / SLANTS % MOST_PEOPLE;
        }

        int bookedWind(int i) {
            return book[i] % SLANTS - MOST_SLANT;
        }

        int packedSlants() {
            int packed = 0;
            for (int person = 0; person < people; person++) {
                packed = packed * SLANTS + slant[person] + MOST_SLANT;
            }
            return packed;
        }

        int howManyLean(int so) {
            int many = 0;
            for (int person = 0; person < people; person++) {
                if (slant[person] == so) {
                    many++;
                }
            }
            return many;
        }

        void copy(Row other) {
            people = other.people;
            propped = other.propped;
            wind = other.wind;
            year = other.year;
            x = other.x;
            booked = other.booked;
            System.arraycopy(other.slant, 0, slant, 0, MOST_PEOPLE);
            System.arraycopy(other.weight, 0, weight, 0, MOST_PEOPLE);
            System.arraycopy(other.asTold, 0, asTold, 0, MOST_PEOPLE);
            System.arraycopy(other.sitter, 0, sitter, 0, MOST_PEOPLE);
            System.arraycopy(other.book, 0, book, 0, MOST_BOOKED);
        }

        void save(int[] into, int at) {
            into[at] = people;
            into[at + 1] = propped;
            into[at + 2] = wind;
            into[at + 3] = year;
            into[at + 4] = x;
            into[at + 5] = booked;
            System.arraycopy(slant, 0, into, at + 6, MOST_PEOPLE);
            System.arraycopy(sitter, 0, into, at + 6 + MOST_PEOPLE, MOST_PEOPLE);
            System.arraycopy(book, 0, into, at + 6 + 2 * MOST_PEOPLE, MOST_BOOKED);
        }

        /** As it was saved; but people told since stay, in the last seats. */
        void restore(int[] from, int at) {
            int before = from[at];
            propped = from[at + 1];
            wind = from[at + 2];
            year = from[at + 3];
            x = from[at + 4];
            booked = from[at + 5];
            for (int i = 0; i < people; i++) {
                slant[i] = i < before ? from[at + 6 + i] : asTold[i];
                sitter[i] = i < before ? from[at + 6 + MOST_PEOPLE + i] : i;
            }
            System.arraycopy(from, at + 6 + 2 * MOST_PEOPLE, book, 0, MOST_BOOKED);
        }
    }

    /** Rows as they were ahead of the latest steps, in a ring. */
    private static final class Steps {
        int kept = 0;
        private int eldest = 0;
        private final int[] saved = new int[MOST_STEPS * SAVED_SIZE];

        void keep(Row row) {
            if (kept == MOST_STEPS) {
                eldest = (eldest + 1) % MOST_STEPS;
                kept--;
            }
            row.save(saved, placeOf(kept));
            kept++;
        }

        void takeBack(Row row) {
            if (kept == 0) {
                return;
            }
            kept--;
            row.restore(saved, placeOf(kept));
        }

        void copy(Steps other) {
            kept = other.kept;
            eldest = other.eldest;
            System.arraycopy(other.saved, 0, saved, 0, MOST_STEPS * SAVED_SIZE);
        }

        private int placeOf(int step) {
            return (eldest + step) % MOST_STEPS * SAVED_SIZE;
        }
    }

    /** What is told beside the row: no step takes it back, but an image has it. */
    private static final class Told {
        int texts = 0;
        int ruling = NONE;
        int barred = 0;
        int words = 0;
        int heard = 0;
        int said = 0;
        final int[] racks = new int[MOST_PEOPLE];
        final int[] widths = new int[MOST_WORDS];
        final int[] heardWho = new int[MOST_HEARD];
        final int[] heardAs = new int[MOST_HEARD];
        final int[] saidWho = new int[MOST_SAID];
        final int[] saidLeans = new int[MOST_SAID];

        void copy(Told other) {
            texts = other.texts;
            ruling = other.ruling;
            barred = other.barred;
            words = other.words;
            heard = other.heard;
            said = other.said;
            System.arraycopy(other.racks, 0, racks, 0, MOST_PEOPLE);
            System.arraycopy(other.widths, 0, widths, 0, MOST_WORDS);
            System.arraycopy(other.heardWho, 0, heardWho, 0, MOST_HEARD);
            System.arraycopy(other.heardAs, 0, heardAs, 0, MOST_HEARD);
            System.arraycopy(other.saidWho, 0, saidWho, 0, MOST_SAID);
            System.arraycopy(other.saidLeans, 0, saidLeans, 0, MOST_SAID);
        }
    }

    /** A text that was read: its clauses, and its laws as what a stack does one after the other. */
    private static final class Text {
        int clauses = 0;
        int size = 0;
        int leansAt = NONE;
        int hearsAt = NONE;
        final int[] kinds = new int[MOST_CLAUSES];
        final int[] firsts = new int[MOST_CLAUSES];
        final int[] seconds = new int[MOST_CLAUSES];
        /** Each token puts one number here at most, so there are never more than bytes. */
        final int[] code = new int[MOST_BYTES];

        void clear() {
            clauses = 0;
            size = 0;
            leansAt = NONE;
            hearsAt = NONE;
        }

        void addClause(int kind, int first, int second) {
            if (clauses >= MOST_CLAUSES) {
                return;
            }
            kinds[clauses] = kind;
            firsts[clauses] = first;
            seconds[clauses] = second;
            clauses++;
        }

        void emit(int op) {
            if (size < MOST_BYTES) {
                code[size] = op;
                size++;
            }
        }

        /** A jump whose aim isn't known yet: where the aim is to stand. */
        int emitJump(int op) {
            emit(op);
            emit(0);
            return size - 1;
        }

        void aimHere(int jump) {
            if (jump >= 0 && jump < MOST_BYTES) {
                code[jump] = size;
            }
        }

        int codeAt(int at) {
            return at >= 0 && at < size ? code[at] : STOP;
        }
    }

    /** The tape, and the reading of it; each reading method answers false once there is a fault. */
    private static final class Reader {
        int length = 0;
        boolean hasRead = false;
        int fault = 0;
        int place = NONE;
        private final int[] bytes = new int[MOST_BYTES];
        private Text text = null;
        private boolean inLeans = false;
        /** The token that is come to: its kind, its bytes, its number. */
        private int kind = THE_END;
        private int start = 0;
        private int stop = 0;
        private int number = 0;

        void append(int four) {
            if (length + 4 > MOST_BYTES) {
                return;
            }
            bytes[length] = four >>> 24;
            bytes[length + 1] = four >>> 16 & 255;
            bytes[length + 2] = four >>> 8 & 255;
            bytes[length + 3] = four & 255;
            length += 4;
        }

        boolean readInto(Text into) {
            text = into;
            text.clear();
            hasRead = true;
            fault = 0;
            place = NONE;
            stop = 0;
            advance();
            for (int nth = 0; nth <= MOST_CLAUSES && kind != THE_END; nth++) {
                if (!readClause(nth)) {
                    return false;
                }
            }
            return true;
        }

        private boolean fail(int why) {
            fault = why;
            place = start;
            return false;
        }

        private boolean readClause(int nth) {
            int clause = clauseKind();
            if (clause == NO_CLAUSE) {
                return fail(1);
            }
            if (clause == LEANS && text.leansAt != NONE || clause == HEARS && text.hearsAt != NONE) {
                return fail(4);
            }
            if (nth >= MOST_CLAUSES) {
                return fail(6);
            }
            advance();
            if (clause == LEANS || clause == HEARS) {
                return readLaw(clause);
            }
            return readDeed(clause);
        }

        private int clauseKind() {
            if (isWord("leans")) {
                return LEANS;
            }
            if (isWord("hears")) {
                return HEARS;
            }
            if (isWord("person")) {
                return PERSON;
            }
            if (isWord("rack")) {
                return RACK;
            }
            if (isWord("swap")) {
                return SWAP;
            }
            if (isWord("turn")) {
                return TURN;
            }
            if (isWord("prop")) {
                return PROP;
            }
            if (isWord("free")) {
                return FREE;
            }
            return isWord("year") ? YEAR : NO_CLAUSE;
        }

        private boolean readLaw(int clause) {
            inLeans = clause == LEANS;
            if (inLeans) {
                text.leansAt = text.size;
            } else {
                text.hearsAt = text.size;
            }
            text.addClause(clause, 0, 0);
            return readSum(0) && takeSign(';') && put(STOP);
        }

        private boolean readDeed(int clause) {
            int first = number;
            if (!takeNumber(leastOf(clause), mostOf(clause))) {
                return false;
            }
            int second = 0;
            if (clause == PERSON || clause == RACK || clause == SWAP) {
                if (!takeWord(clause == PERSON ? "weight" : clause == RACK ? "at" : "with")) {
                    return false;
                }
                second = number;
                boolean taken = clause == PERSON
                        ? takeNumber(1, MOST_WEIGHT) : takeNumber(0, MOST_PEOPLE - 1);
                if (!taken) {
                    return false;
                }
            }
            text.addClause(clause, first, second);
            return takeSign(';');
        }

        private static int leastOf(int clause) {
            return clause == TURN || clause == YEAR ? 1 : 0;
        }

        private static int mostOf(int clause) {
            switch (clause) {
                case PERSON:
                case RACK:
                    return 2 * MOST_SLANT;
                case TURN:
                    return MOST_PEOPLE;
                case YEAR:
                    return MOST_YEARS;
                default:
                    return MOST_PEOPLE - 1;
            }
        }

        private boolean readSum(int open) {
            if (!readProduct(open)) {
                return false;
            }
            for (int n = 0; n < MOST_BYTES && (kind == '+' || kind == '-'); n++) {
                int op = kind == '+' ? ADD : SUBTRACT;
                advance();
                if (!readProduct(open)) {
                    return false;
                }
                text.emit(op);
            }
            return true;
        }

        private boolean readProduct(int open) {
            if (!readOne(open)) {
                return false;
            }
            for (int n = 0; n < MOST_BYTES && (kind == '*' || kind == '/'); n++) {
                int op = kind == '*' ? MULTIPLY : DIVIDE;
                advance();
                if (!readOne(open)) {
                    return false;
                }
                text.emit(op);
            }
            return true;
        }

        private boolean readOne(int open) {
            if (kind == NUMBER) {
                text.emit(FIRST_NUMBER + number);
                return takeNumber(0, MOST_NUMBER);
            }
            if (kind == '(') {
                return takeOpening(open) && readSum(open + 1) && takeSign(')');
            }
            if (kind == '-') {
                return takeOpening(open) && readOne(open + 1) && put(NEGATE);
            }
            if (isWord("step")) {
                return takeOpening(open) && readOne(open + 1) && takeWord("to")
                        && readOne(open + 1) && put(STEP);
            }
            if (isWord("seat")) {
                return takeOpening(open) && readOne(open + 1) && put(SEAT);
            }
            if (isWord("if")) {
                return takeOpening(open) && readChoice(open + 1);
            }
            return readName();
        }

        private boolean readChoice(int open) {
            if (!readEither(open) || !takeWord("then")) {
                return false;
            }
            int unless = text.emitJump(JUMP_UNLESS);
            if (!readSum(open) || !takeWord("else")) {
                return false;
            }
            int over = text.emitJump(JUMP);
            text.aimHere(unless);
            if (!readSum(open) || !takeWord("end")) {
                return false;
            }
            text.aimHere(over);
            return true;
        }

        private boolean readEither(int open) {
            if (!readBoth(open)) {
                return false;
            }
            for (int n = 0; n < MOST_BYTES && isWord("or"); n++) {
                advance();
                if (!readBoth(open)) {
                    return false;
                }
                text.emit(OR);
            }
            return true;
        }

        private boolean readBoth(int open) {
            if (!readAsk(open)) {
                return false;
            }
            for (int n = 0; n < MOST_BYTES && isWord("and"); n++) {
                advance();
                if (!readAsk(open)) {
                    return false;
                }
                text.emit(AND);
            }
            return true;
        }

        private boolean readAsk(int open) {
            if (isWord("not")) {
                return takeOpening(open) && readAsk(open + 1) && put(NOT);
            }
            if (!readSum(open)) {
                return false;
            }
            int op = comparison();
            if (op == STOP) {
                return fail(1);
            }
            advance();
            return readSum(open) && put(op);
        }

        private int comparison() {
            switch (kind) {
                case '<':
                    return LESS;
                case '<' + WITH_EQUAL:
                    return AT_MOST;
                case '>':
                    return MORE;
                case '>' + WITH_EQUAL:
                    return AT_LEAST;
                case '=':
                    return ALIKE;
                case '#':
                    return UNLIKE;
                default:
                    return STOP;
            }
        }

        private boolean readName() {
            int name = nameOfToken();
            if (name == NONE) {
                return fail(1);
            }
            boolean ofLeans = name == NAME_LEFT || name == NAME_RIGHT;
            boolean ofHears = name == NAME_WORD || name == NAME_FROM;
            if (inLeans ? ofHears : ofLeans) {
                return fail(5);
            }
            text.emit(FIRST_NAME + name);
            advance();
            return true;
        }

        private int nameOfToken() {
            if (isWord("year")) {
                return NAME_YEAR;
            }
            if (isWord("wind")) {
                return NAME_WIND;
            }
            if (isWord("weight")) {
                return NAME_WEIGHT;
            }
            if (isWord("who")) {
                return NAME_WHO;
            }
            if (isWord("slant")) {
                return NAME_SLANT;
            }
            if (isWord("left")) {
                return NAME_LEFT;
            }
            if (isWord("right")) {
                return NAME_RIGHT;
            }
            if (isWord("word")) {
                return NAME_WORD;
            }
            return isWord("from") ? NAME_FROM : NONE;
        }

        private boolean put(int op) {
            text.emit(op);
            return true;
        }

        /** The token opens something around what follows: not the ninth. */
        private boolean takeOpening(int open) {
            if (open >= MOST_OPEN) {
                return fail(3);
            }
            advance();
            return true;
        }

        private boolean takeNumber(int least, int most) {
            if (kind != NUMBER) {
                return fail(1);
            }
            if (!within(number, least, most)) {
                return fail(2);
            }
            advance();
            return true;
        }

        private boolean takeWord(String wanted) {
            if (!isWord(wanted)) {
                return fail(1);
            }
            advance();
            return true;
        }

        private boolean takeSign(char wanted) {
            if (kind != wanted) {
                return fail(1);
            }
            advance();
            return true;
        }

        private boolean isWord(String wanted) {
            if (kind != LETTERS || stop - start != wanted.length()) {
                return false;
            }
            for (int i = 0; start + i < stop; i++) {
                if (bytes[start + i] != wanted.charAt(i)) {
                    return false;
                }
            }
            return true;
        }

        /** Goes to the next token. */
        private void advance() {
            start = stop;
            while (start < length && (bytes[start] == 32 || bytes[start] == 10)) {
                start++;
            }
            stop = start;
            if (start >= length) {
                kind = THE_END;
            } else if (isLetter(bytes[start])) {
                kind = LETTERS;
                while (stop < length && isLetter(bytes[stop])) {
                    stop++;
                }
            } else if (isDigit(bytes[start])) {
                kind = NUMBER;
                number = 0;
                while (stop < length && isDigit(bytes[stop])) {
                    // Beyond the greatest it is wrong however long it goes on.
                    number = Math.min(MOST_NUMBER + 1, number * 10 + bytes[stop] - '0');
                    stop++;
                }
            } else {
                scanSign();
            }
        }

        private void scanSign() {
            int sign = bytes[start];
            stop = start + 1;
            switch (sign) {
                case '<':
                case '>':
                    kind = sign;
                    if (stop < length && bytes[stop] == '=') {
                        kind = sign + WITH_EQUAL;
                        stop++;
                    }
                    break;
                case '=':
                case '#':
                case '+':
                case '-':
                case '*':
                case '/':
                case '(':
                case ')':
                case ';':
                    kind = sign;
                    break;
                default:
                    kind = NO_TOKEN;
                    break;
            }
        }

        private static boolean isLetter(int b) {
            return b >= 'a' && b <= 'z' || b >= 'A' && b <= 'Z';
        }

        private static boolean isDigit(int b) {
            return b >= '0' && b <= '9';
        }
    }

    /** How people lean and what they hear, by a text's laws or, without, by those that always are. */
    private static final class Laws {
        private final int[] names = new int[NAMES];
        private final int[] stack = new int[STACK_SIZE];
        private int top = 0;

        /**
         * One year, everybody leaning who isn't propped; tells how many came to stand straight.
         * If it isn't drawn, wind and year stay as they are.
         */
        int pass(Row row, Text text, boolean drawn) {
            if (drawn) {
                row.drawWind();
            }
            int straightened = 0;
            for (int seat = 0; seat < row.people; seat++) {
                if (row.isPropped(seat)) {
                    continue;
                }
                int person = row.sitter[seat];
                int before = row.slant[person];
                int after = leaning(row, person, text);
                row.slant[person] = after;
                if (after == 0 && before != 0) {
                    row.write(person);
                    straightened++;
                }
            }
            if (drawn) {
                row.year++;
            }
            return straightened;
        }

        int leaning(Row row, int person, Text text) {
            if (text == null || text.leansAt == NONE) {
                return stepTo(row.slant[person], row.wind);
            }
            int seat = row.seatOf(person);
            setNames(row, person);
            names[NAME_LEFT] = row.slantIn(seat - 1);
            names[NAME_RIGHT] = row.slantIn(seat + 1);
            return clamp(reckon(row, text, text.leansAt), MOST_SLANT);
        }

        int hearing(Row row, int ear, int speaker, int word, Text text) {
            if (text == null || text.hearsAt == NONE) {
                return word + row.slant[speaker] - row.slant[ear];
            }
            setNames(row, ear);
            names[NAME_WORD] = word;
            names[NAME_FROM] = row.slant[speaker];
            return clamp(reckon(row, text, text.hearsAt), MOST_HEARD_AS);
        }

        private void setNames(Row row, int person) {
            names[NAME_YEAR] = row.year;
            names[NAME_WIND] = row.wind;
            names[NAME_WEIGHT] = row.weight[person];
            names[NAME_WHO] = person;
            names[NAME_SLANT] = row.slant[person];
        }

        private int reckon(Row row, Text text, int from) {
            top = 0;
            int at = from;
            // Jumps go onwards alone, so no law does more than it is long.
            for (int done = 0; done < MOST_BYTES; done++) {
                int op = text.codeAt(at);
                at++;
                if (op == STOP) {
                    break;
                }
                if (op >= FIRST_NUMBER) {
                    push(op - FIRST_NUMBER);
                } else if (op >= FIRST_NAME) {
                    push(op - FIRST_NAME < NAMES ? names[op - FIRST_NAME] : 0);
                } else if (op == JUMP) {
                    at = text.codeAt(at);
                } else if (op == JUMP_UNLESS) {
                    at = pop() == 0 ? text.codeAt(at) : at + 1;
                } else if (op == SEAT) {
                    push(row.slantIn(pop()));
                } else {
                    int right = pop();
                    int left = op == NEGATE || op == NOT ? 0 : pop();
                    push(joined(op, left, right));
                }
            }
            return pop();
        }

        private void push(int value) {
            if (top < STACK_SIZE) {
                stack[top] = value;
                top++;
            }
        }

        private int pop() {
            if (top == 0) {
                return 0;
            }
            top--;
            return stack[top];
        }

        /** What an operation makes of two; of one, that is the right one. */
        private static int joined(int op, int left, int right) {
            switch (op) {
                case ADD:
                    return clamp(left + right, MOST_RECKONED);
                case SUBTRACT:
                    return clamp(left - right, MOST_RECKONED);
                case MULTIPLY:
                    // Two such numbers can make more than an int holds.
                    long product = (long) left * right;
                    return (int) Math.max(-MOST_RECKONED, Math.min(MOST_RECKONED, product));
                case DIVIDE:
                    return right == 0 ? 0 : left / right;
                case NEGATE:
                    return -right;
                case STEP:
                    return stepTo(left, right);
                case LESS:
                    return left < right ? 1 : 0;
                case AT_MOST:
                    return left <= right ? 1 : 0;
                case MORE:
                    return left > right ? 1 : 0;
                case AT_LEAST:
                    return left >= right ? 1 : 0;
                case ALIKE:
                    return left == right ? 1 : 0;
                case UNLIKE:
                    return left != right ? 1 : 0;
                case NOT:
                    return 1 - right;
                case AND:
                    return left & right;
                case OR:
                    return left | right;
                default:
                    return 0;
            }
        }

        private static int stepTo(int from, int to) {
            if (from < to) {
                return from + 1;
            }
            return from > to ? from - 1 : from;
        }
    }

    /** How far each arrangement is from all sitting by number; an arrangement is an order and who is turned. */
    private static final class Turns {
        private static final int TURNED_SETS = 1 << MOST_PEOPLE;
        private static final int MOST_ORDERS = 120;
        private int people = NONE;
        private final int[] sitting = new int[MOST_PEOPLE];
        /** By order and turn: the order behind it, and whom it turns (bits). */
        private final int[] orderBehind = new int[MOST_ORDERS * MOST_PEOPLE];
        private final int[] turnedBy = new int[MOST_ORDERS * MOST_PEOPLE];
        private final int[] far = new int[MOST_ORDERS * TURNED_SETS];

        void prepare(int howMany) {
            if (people == howMany || !within(howMany, 0, MOST_PEOPLE)) {
                return;
            }
            people = howMany;
            for (int rank = 0; rank < FACTORIAL[people]; rank++) {
                prepareOrder(rank);
            }
            for (int i = 0; i < MOST_ORDERS * TURNED_SETS; i++) {
                far[i] = NONE;
            }
            far[0] = 0;
            boolean more = true;
            // A turn undoes itself, so the way from all sitting by number is the way to it.
            for (int distance = 0; more && distance < MOST_ORDERS * TURNED_SETS; distance++) {
                more = goFarther(distance);
            }
        }

        private void prepareOrder(int rank) {
            for (int n = 1; n <= people; n++) {
                unrank(rank, people, sitting);
                int turned = 0;
                for (int seat = 0; seat < n; seat++) {
                    turned |= 1 << sitting[seat];
                }
                for (int low = 0, high = n - 1; low < high; low++, high--) {
                    int who = sitting[low];
                    sitting[low] = sitting[high];
                    sitting[high] = who;
                }
                orderBehind[rank * MOST_PEOPLE + n - 1] = rankOf(sitting, people);
                turnedBy[rank * MOST_PEOPLE + n - 1] = turned;
            }
        }

        private boolean goFarther(int distance) {
            boolean found = false;
            int all = FACTORIAL[people] * TURNED_SETS;
            for (int at = 0; at < all; at++) {
                if (far[at] != distance) {
                    continue;
                }
                for (int n = 1; n <= people; n++) {
                    int next = behind(at, n);
                    if (far[next] == NONE) {
                        far[next] = distance + 1;
                        found = true;
                    }
                }
            }
            return found;
        }

        private int behind(int at, int n) {
            int turn = at / TURNED_SETS * MOST_PEOPLE + n - 1;
            return orderBehind[turn] * TURNED_SETS + (at % TURNED_SETS ^ turnedBy[turn]);
        }

        /** How many turns there are (i NONE), or the i-th. */
        int answer(Row row, int i) {
            int at = rankOf(row.sitter, row.people) * TURNED_SETS;
            int many = far[at];
            if (i == NONE) {
                return many;
            }
            if (i < 0 || i >= many) {
                return NO_SUCH;
            }
            int turn = 0;
            for (int done = 0; done <= i; done++) {
                turn = lowestNearer(at);
                at = behind(at, turn);
            }
            return turn;
        }

        private int lowestNearer(int at) {
            for (int n = 1; n < people; n++) {
                if (far[behind(at, n)] == far[at] - 1) {
                    return n;
                }
            }
            return people;
        }
    }

    /** Words broken into lines; each row tells, by the word a line begins with, of all from there on. */
    private static final class Page {
        final int[] badness = new int[MOST_WORDS + 1];
        final int[] lines = new int[MOST_WORDS + 1];
        private final int[] next = new int[MOST_WORDS + 1];
        private int words = 0;

        /** False if a word is wider than the page. */
        boolean breakLines(Told told, int width) {
            words = told.words;
            for (int i = 0; i < words; i++) {
                if (told.widths[i] > width) {
                    return false;
                }
            }
            badness[words] = 0;
            lines[words] = 0;
            for (int i = words - 1; i >= 0; i--) {
                chooseLine(told, width, i);
            }
            return true;
        }

        /** A line of fewer words is tried first, so only a better one takes its place. */
        private void chooseLine(Told told, int width, int begin) {
            int free = width + 1;
            for (int behind = begin + 1; behind <= words; behind++) {
                free -= told.widths[behind - 1] + 1;
                if (free < 0) {
                    break;
                }
                int bad = badness[behind] + (behind == words ? 0 : free * free);
                int many = lines[behind] + 1;
                if (behind == begin + 1 || bad < badness[begin]
                        || bad == badness[begin] && many < lines[begin]) {
                    badness[begin] = bad;
                    lines[begin] = many;
                    next[begin] = behind;
                }
            }
        }

        /** The word that the i-th line of the latest breaking begins with. */
        int beginning(int i) {
            if (!within(i, 0, lines[0] - 1)) {
                return NONE;
            }
            int begin = 0;
            for (int n = 0; n < i; n++) {
                begin = next[begin];
            }
            return begin;
        }

        int leastWidth(Told told, int most) {
            int widest = 0;
            int all = NONE;
            for (int i = 0; i < told.words; i++) {
                widest = Math.max(widest, told.widths[i]);
                all += told.widths[i] + 1;
            }
            for (int width = widest; width < all; width++) {
                if (fewestLines(told, width) <= most) {
                    return width;
                }
            }
            return all;
        }

        /** No word is wider. */
        private static int fewestLines(Told told, int width) {
            int many = 0;
            int free = NONE;
            for (int i = 0; i < told.words; i++) {
                free -= told.widths[i] + 1;
                if (many == 0 || free < 0) {
                    many++;
                    free = width - told.widths[i];
                }
            }
            return many;
        }
    }

    /** What may have been meant: pairs of a speaker and a word, 100 times the one and the other. */
    private static final class Guess {
        int count = 0;
        final int[] pairs = new int[MOST_PEOPLE * WORDS_SAID];
        private final int[] alike = new int[2 * MOST_HEARD_AS + 1];
        private final Laws laws;

        Guess(Laws laws) {
            this.laws = laws;
        }

        void gather(Row row, Told told, Text text, int err) {
            count = 0;
            for (int speaker = 0; speaker < row.people; speaker++) {
                for (int word = 0; word < WORDS_SAID; word++) {
                    int pair = speaker * WORDS_SAID + word;
                    if (fits(row, told, text, err, pair)) {
                        pairs[count] = pair;
                        count++;
                    }
                }
            }
        }

        private boolean fits(Row row, Told told, Text text, int err, int pair) {
            for (int i = 0; i < told.heard; i++) {
                int as = laws.hearing(row, told.heardWho[i], pair / WORDS_SAID, pair % WORDS_SAID, text);
                if (Math.abs(as - told.heardAs[i]) > err) {
                    return false;
                }
            }
            return true;
        }

        /** How many of the pairs a person hears alike, at the most. */
        int mostLeft(Row row, int person, Text text) {
            for (int i = 0; i <= 2 * MOST_HEARD_AS; i++) {
                alike[i] = 0;
            }
            int most = 0;
            for (int i = 0; i < count; i++) {
                int pair = pairs[i];
                int as = laws.hearing(row, person, pair / WORDS_SAID, pair % WORDS_SAID, text);
                alike[as + MOST_HEARD_AS]++;
                most = Math.max(most, alike[as + MOST_HEARD_AS]);
            }
            return most;
        }
    }

    /** In how many of 3 by itself so many times ways a slant comes to be what it is. */
    private static final class Odds {
        private final long[] ways = new long[SLANTS];
        private final long[] before = new long[SLANTS];

        /** With untilStraight, ways end where they first come to 0. */
        void spreadOut(int from, int n, boolean untilStraight) {
            for (int i = 0; i < SLANTS; i++) {
                ways[i] = i == from + MOST_SLANT ? 1 : 0;
            }
            for (int done = 0; done < n; done++) {
                if (untilStraight) {
                    ways[MOST_SLANT] = 0;
                }
                System.arraycopy(ways, 0, before, 0, SLANTS);
                for (int i = 0; i < SLANTS; i++) {
                    ways[i] = before[Math.max(0, i - 1)] + before[i] + before[Math.min(SLANTS - 1, i + 1)];
                }
            }
        }

        /** The upper or the lower one of the fraction in its lowest terms. */
        long share(int n, int to, boolean low) {
            long upper = ways[to + MOST_SLANT];
            long lower = 1;
            for (int done = 0; done < n; done++) {
                lower *= 3;
            }
            // The lower one has no divisor but threes.
            for (int done = 0; done < n && upper % 3 == 0; done++) {
                upper /= 3;
                lower /= 3;
            }
            return low ? lower : upper;
        }
    }
}
