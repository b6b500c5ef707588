import java.util.Arrays;

/** A town whose ballots may say how they go by other ballots. */
public final class BallotRing {
    public static final int NONE = -1;

    private static final int NO_SUCH = -2;

    private static final int MOST_BYTES = 1600;
    private static final int FED_AT_ONCE = 20;
    private static final int LONGEST_WORD = 8;
    private static final int LONGEST_NUMBER = 4;
    private static final int MOST_NAMES = 3;
    private static final int MOST_STREETS = 4;
    private static final int MOST_VOTERS = 8;
    private static final int MOST_WEIGHT = 9;
    private static final int MOST_UNITS = 80;
    private static final int MOST_AROUND = 6;
    private static final int MOST_ROUNDS = 40;
    private static final int MOST_SWAYED = 3;
    private static final int MOST_HANDS = 20;
    private static final int MOST_BOXES = 3;
    private static final int LONGEST_STEP = 1000;
    private static final int LAST_TIME = 100000;

    private static final int NO_TOKEN = 1;
    private static final int CANNOT_STAND = 2;
    private static final int TOLD_ALREADY = 3;
    private static final int NO_SUCH_NUMBER = 4;
    private static final int NOT_OF_THE_SORT = 5;

    // The sorts of tokens: a word that stands for itself has its place in WORDS, a sign FIRST_SIGN and its place in SIGNS.
    private static final String WORDS =
        "name street voter at weight ballot if then else blank as most in fewest or and not votes blanks is ";
    private static final String SIGNS = ";()<>=+-";
    private static final int WORD_NAME = 0;
    private static final int WORD_STREET = 1;
    private static final int WORD_VOTER = 2;
    private static final int WORD_AT = 3;
    private static final int WORD_WEIGHT = 4;
    private static final int WORD_BALLOT = 5;
    private static final int WORD_IF = 6;
    private static final int WORD_THEN = 7;
    private static final int WORD_ELSE = 8;
    private static final int WORD_BLANK = 9;
    private static final int WORD_AS = 10;
    private static final int WORD_MOST = 11;
    private static final int WORD_IN = 12;
    private static final int WORD_FEWEST = 13;
    private static final int WORD_OR = 14;
    private static final int WORD_AND = 15;
    private static final int WORD_NOT = 16;
    private static final int WORD_VOTES = 17;
    private static final int WORD_BLANKS = 18;
    private static final int WORD_IS = 19;
    private static final int OWN_WORDS = 20;
    private static final int SOME_NAME = 20;
    private static final int NUMBER = 21;
    private static final int FIRST_SIGN = 22;
    private static final int SEMICOLON = 22;
    private static final int OPENING = 23;
    private static final int CLOSING = 24;
    private static final int LESS = 25;
    private static final int GREATER = 26;
    private static final int EQUAL = 27;
    private static final int PLUS = 28;
    private static final int MINUS = 29;
    private static final int THE_END = 30;
    private static final int BAD = 31;

    // What a reader wants next in a wording.
    private static final int WANT_WORDING = 0;
    private static final int WANT_UNIT = 1;
    private static final int WANT_SIGN = 2;
    private static final int WANT_ELSE = 3;
    private static final int WANT_NOTHING = 4;

    // What stands open in a wording: brackets first, then operators; BINDING tells how tightly each binds.
    private static final int IN_QUESTION = 0;
    private static final int IN_THEN = 1;
    private static final int IN_ELSE = 2;
    private static final int IN_BRACKETS = 3;
    private static final int DO_OR = 4;
    private static final int DO_AND = 5;
    private static final int DO_NOT = 6;
    private static final int DO_LESS = 7;
    private static final int DO_GREATER = 8;
    private static final int DO_EQUAL = 9;
    private static final int DO_ADD = 10;
    private static final int DO_SUBTRACT = 11;
    private static final int[] BINDING = {0, 0, 0, 0, 1, 2, 3, 4, 4, 4, 5, 5};
    private static final int BIND_OR = 1;
    private static final int BIND_AND = 2;
    private static final int BIND_RELATION = 4;
    private static final int BIND_SUM = 5;

    // The steps of a ballot beside the DO_ ones; a step is kind + 16 * small + 256 * large.
    private static final int PUT_NUMBER = 0;
    private static final int PUT_VOTES = 1;
    private static final int PUT_IS = 2;
    private static final int SKIP = 3;
    private static final int SAY_MARK = 12;
    private static final int SAY_AS = 13;
    private static final int SAY_MOST = 14;
    private static final int SAY_FEWEST = 15;
    private static final int EVERYWHERE = 0;

    // A row is held with two bits for each voter, the first voter's highest: so rows stand in their order as numbers.
    private static final int LOW_BITS = 0x5555;
    private static final int HIGH_BITS = 0xAAAA;
    private static final int ALL_BITS = 0xFFFF;
    private static final int ALL_VOTERS = 0xFF;

    private final Reader reader;
    private final Tape tape;
    private final Speaker speaker;
    private final Rows rows;
    private final Orders orders;
    private final Sway swayed;
    private final Texts texts;
    private final Town wider;
    private final Earnest now;
    private final Earnest[] boxes;
    private Town town;
    private Town spare;
    private int time;
    private int latestFault;
    private int latestPlace;

    public BallotRing() {
        reader = new Reader();
        tape = reader.tape;
        speaker = new Speaker();
        rows = new Rows();
        orders = new Orders();
        swayed = new Sway();
        texts = new Texts();
        wider = new Town();
        now = new Earnest();
        boxes = new Earnest[MOST_BOXES];
        for (int i = 0; i < boxes.length; i++) {
            boxes[i] = new Earnest();
        }
        town = new Town();
        spare = new Town();
        latestPlace = NONE;
    }

    public int feed(int a, int b, int c, int d, int e) {
        if (tape.length + FED_AT_ONCE > MOST_BYTES) {
            return NONE;
        }
        tape.add(a);
        tape.add(b);
        tape.add(c);
        tape.add(d);
        tape.add(e);
        return tape.length;
    }

    public int end(int n) {
        if (n < 0 || n > tape.length) {
            return NONE;
        }
        tape.length = n;
        return n;
    }

    public int roll() {
        boolean good = reader.readRoll(spare);
        endReading();
        if (!good) {
            return NONE;
        }
        Town before = town;
        town = spare;
        spare = before;
        now.beginWith(town);
        for (int box = 0; box < MOST_BOXES; box++) {
            empty(boxAt(box));
        }
        forget(ALL_VOTERS);
        return town.voters;
    }

    public int reword(int voter) {
        if (!town.hasVoter(voter)) {
            return NO_SUCH;
        }
        int others = now.units() - now.ballotOf(voter).units;
        boolean good = reader.readOne(town, voter, others);
        endReading();
        if (!good) {
            return NONE;
        }
        now.putBallot(voter, reader.ballot());
        forget(1 << voter);
        return now.units();
    }

    public int fault(int what) {
        if (what == 0) {
            return latestFault;
        }
        return what == 1 ? latestPlace : NONE;
    }

    public int countings() {
        rows.refresh(town, now);
        return rows.standingCount;
    }

    public int counting(int i, int voter) {
        rows.refresh(town, now);
        if (!rows.hasStanding(i) || !town.hasVoter(voter)) {
            return NONE;
        }
        return town.markOf(at(rows.standing, i), voter);
    }

    public int chosen(int i) {
        rows.refresh(town, now);
        if (!rows.hasStanding(i)) {
            return NO_SUCH;
        }
        return town.chosenIn(at(rows.standing, i)) - 1;
    }

    public int wins(int name) {
        rows.refresh(town, now);
        if (!town.hasName(name) || rows.standingCount == 0) {
            return NONE;
        }
        int won = 0;
        for (int i = 0; i < rows.standingCount; i++) {
            if (town.chosenIn(at(rows.standing, i)) == name + 1) {
                won++;
            }
        }
        if (won == rows.standingCount) {
            return 2;
        }
        return won > 0 ? 1 : 0;
    }

    public int says(int voter) {
        if (!town.hasVoter(voter)) {
            return NONE;
        }
        return speaker.hear(now.ballotOf(voter), voter, now.marks, town);
    }

    public int looks(int voter) {
        if (!town.hasVoter(voter)) {
            return NONE;
        }
        return town.looksOf(voter, now.ballotOf(voter));
    }

    public int part(int voter) {
        if (!town.hasVoter(voter)) {
            return NONE;
        }
        int all = reachedFrom(voter);
        int both = 0;
        for (int other = 0; other < town.voters; other++) {
            boolean there = (all >> other & 1) == 1;
            if (there && (reachedFrom(other) >> voter & 1) == 1) {
                both |= 1 << other;
            }
        }
        return both;
    }

    public int telling() {
        rows.refresh(town, now);
        return rows.leastUnkept(town);
    }

    public boolean mark(int voter, int mark) {
        if (!town.hasVoter(voter) || !town.hasMark(mark)) {
            return false;
        }
        now.marks = town.withMark(now.marks, voter, mark);
        return true;
    }

    public int open(int voter) {
        if (!town.hasVoter(voter)) {
            return NONE;
        }
        int mark = speaker.hear(now.ballotOf(voter), voter, now.marks, town);
        now.marks = town.withMark(now.marks, voter, mark);
        return mark;
    }

    public int has(int voter) {
        return town.hasVoter(voter) ? town.markOf(now.marks, voter) : NONE;
    }

    public int judge() {
        return speaker.firstBroken(now, town.voters, now.marks, town);
    }

    public int rest(int order) {
        if (!orders.take(order, town.voters)) {
            return NO_SUCH;
        }
        rows.refresh(town, now);
        return orders.roundsToRest(rows.said, MOST_ROUNDS);
    }

    public int soonest(int what) {
        if (what != 0 && what != 1) {
            return NONE;
        }
        if (!orders.known) {
            rows.refresh(town, now);
            orders.search(rows.said, town.voters);
        }
        return what == 0 ? orders.soonestRest : orders.soonestOrder;
    }

    public int sway(int name, int what) {
        if (!town.hasName(name) || what < 0 || what > 2) {
            return NONE;
        }
        if (!swayed.knows(name)) {
            rows.refresh(town, now);
            swayed.search(name, rows, town);
        }
        return swayed.answer(name, what);
    }

    public int more(int street, int mark) {
        boolean can = street >= 0 && street < town.streets && town.hasMark(mark);
        if (!can || town.voters >= MOST_VOTERS) {
            return NONE;
        }
        wider.becomeWider(town, street);
        int count = 0;
        int end = 1 << 2 * town.voters;
        for (int row = 0; row < end; row++) {
            if (town.canBe(row) && speaker.firstBroken(now, town.voters, row << 2 | mark, wider) == NONE) {
                count++;
            }
        }
        return count;
    }

    public int shown(int n, int clause, int what) {
        if (n < 2 || n > 3 || clause < 0 || clause > 2) {
            return NONE;
        }
        texts.show(n, clause);
        switch (what) {
            case 0:
                return texts.count;
            case 1:
                return texts.countOfNone;
            case 2:
                return texts.firstOfNone;
            case 3:
                return texts.mostCountings;
            default:
                return NONE;
        }
    }

    public int hand(int voter, int mark) {
        if (!town.hasVoter(voter) || !town.hasMark(mark)) {
            return NONE;
        }
        return now.hands.tell(voter, mark, time);
    }

    public boolean untell(int hand) {
        return now.hands.takeBack(hand, time);
    }

    public int later(int by) {
        if (by < 0 || by > LONGEST_STEP || time + by > LAST_TIME) {
            return NONE;
        }
        time += by;
        return time;
    }

    public int left(int k) {
        rows.refresh(town, now);
        if (!now.hands.gather(k, town)) {
            return 0;
        }
        int count = 0;
        for (int i = 0; i < rows.standingCount; i++) {
            if (now.hands.agreeWith(at(rows.standing, i))) {
                count++;
            }
        }
        return count;
    }

    public int sure(int voter, int k) {
        rows.refresh(town, now);
        if (!town.hasVoter(voter) || !now.hands.gather(k, town)) {
            return NONE;
        }
        int only = NONE;
        for (int i = 0; i < rows.standingCount; i++) {
            int row = at(rows.standing, i);
            if (!now.hands.agreeWith(row)) {
                continue;
            }
            int here = town.markOf(row, voter);
            if (only != NONE && only != here) {
                return NO_SUCH;
            }
            only = here;
        }
        return only;
    }

    public int image(int box) {
        Earnest kept = boxAt(box);
        if (kept == null) {
            return NONE;
        }
        kept.become(now);
        kept.filled = true;
        return now.hands.count;
    }

    public int back(int box) {
        Earnest kept = boxAt(box);
        if (kept == null || !kept.filled) {
            return NONE;
        }
        int other = now.otherBallots(kept);
        now.become(kept);
        forget(other);
        return now.hands.count;
    }

    public int about(int what) {
        switch (what) {
            case 0:
                return town.names;
            case 1:
                return town.streets;
            case 2:
                return town.voters;
            case 3:
                return Integer.bitCount(town.told);
            case 4:
                return now.hands.count;
            case 5:
                return time;
            case 6:
                return tape.length;
            case 7:
                return now.units();
            default:
                return NONE;
        }
    }

    private Earnest boxAt(int box) {
        return box >= 0 && box < boxes.length ? boxes[box] : null;
    }

    private static void empty(Earnest box) {
        if (box != null) {
            box.filled = false;
        }
    }

    // A text that was read is gone from the tape, whether it had a fault or not.
    private void endReading() {
        tape.length = 0;
        latestFault = reader.fault;
        latestPlace = reader.place;
    }

    private void forget(int voters) {
        if (voters != 0) {
            rows.forget(voters);
            orders.known = false;
            swayed.known = 0;
        }
    }

    private int reachedFrom(int voter) {
        int all = 1 << voter;
        // Each turn goes at least one voter further, or never again any.
        for (int turn = 0; turn < MOST_VOTERS; turn++) {
            for (int other = 0; other < town.voters; other++) {
                if ((all >> other & 1) == 1) {
                    all |= town.looksOf(other, now.ballotOf(other));
                }
            }
        }
        return all;
    }

    private static int at(int[] row, int i) {
        return i >= 0 && i < row.length ? row[i] : 0;
    }

    private static void put(int[] row, int i, int value) {
        if (i >= 0 && i < row.length) {
            row[i] = value;
        }
    }

    private static boolean isBlank(int c) {
        return c == ' ' || c == '\n';
    }

    private static boolean isLetter(int c) {
        return c >= 'a' && c <= 'z';
    }

    private static boolean isDigit(int c) {
        return c >= '0' && c <= '9';
    }

    /** The bytes that were fed, and the tokens that they are. */
    private static final class Tape {
        private final int[] bytes = new int[MOST_BYTES];
        private final long[] words = new long[OWN_WORDS];
        private final int[] kinds = new int[MOST_BYTES + 1];
        private final int[] starts = new int[MOST_BYTES + 1];
        private final long[] values = new long[MOST_BYTES + 1];
        private int length;
        private int count;
        private int next;
        private int kind;
        private int start;
        private long value;

        private Tape() {
            int word = 0;
            long letters = 0;
            for (int i = 0; i < WORDS.length(); i++) {
                char c = WORDS.charAt(i);
                if (c != ' ') {
                    letters = withLetter(letters, c);
                } else if (word < words.length) {
                    words[word] = letters;
                    word++;
                    letters = 0;
                }
            }
        }

        private void add(int four) {
            for (int shift = 24; shift >= 0; shift -= 8) {
                put(bytes, length, four >>> shift & 255);
                length++;
            }
        }

        private void rewind() {
            split();
            next = 0;
            advance();
        }

        // The end is a token, too, and stays the one that is looked at; so does one that is none.
        private void advance() {
            if (next >= 0 && next < count && next < kinds.length) {
                kind = kinds[next];
                start = starts[next];
                value = values[next];
                next++;
            }
        }

        private void split() {
            int end = Math.min(length, bytes.length);
            int i = 0;
            count = 0;
            kind = SEMICOLON;
            for (int turn = 0; turn <= end && kind != THE_END && kind != BAD; turn++) {
                while (i < end && isBlank(at(bytes, i))) {
                    i++;
                }
                int from = i;
                int c = at(bytes, i);
                value = 0;
                if (i >= end) {
                    kind = THE_END;
                } else if (isLetter(c)) {
                    i = endOfWord(i, end);
                } else if (isDigit(c)) {
                    i = endOfNumber(i, end);
                } else {
                    int sign = SIGNS.indexOf((char) c);
                    kind = sign < 0 ? BAD : FIRST_SIGN + sign;
                    i++;
                }
                keep(from);
            }
        }

        private void keep(int from) {
            if (count >= 0 && count < kinds.length) {
                kinds[count] = kind;
                starts[count] = from;
                values[count] = value;
                count++;
            }
        }

        private int endOfWord(int from, int end) {
            int i = from;
            while (i < end && isLetter(at(bytes, i))) {
                value = withLetter(value, at(bytes, i));
                i++;
            }
            kind = SOME_NAME;
            for (int word = 0; word < words.length; word++) {
                if (words[word] == value) {
                    kind = word;
                }
            }
            if (i - from > LONGEST_WORD) {
                kind = BAD;
            }
            return i;
        }

        private int endOfNumber(int from, int end) {
            int i = from;
            while (i < end && isDigit(at(bytes, i))) {
                value = value * 10 + at(bytes, i) - '0';
                i++;
            }
            boolean joined = i < end && isLetter(at(bytes, i));
            kind = joined || i - from > LONGEST_NUMBER ? BAD : NUMBER;
            return i;
        }

        // Eight letters of five bits each find room in a long, so equal values are equal words.
        private static long withLetter(long letters, int c) {
            return letters << 5 | (c - 'a' + 1);
        }
    }

    /** Reads the text on a tape: a roll into a town, or the wording of one ballot. */
    private static final class Reader {
        private final Tape tape = new Tape();
        private final int[] steps = new int[MOST_BYTES];
        private final int[] standing = new int[64];
        private Town town;
        private int stepCount;
        private int height;
        private int around;
        private int own;
        private int units;
        private int unitsBefore;
        private int askedVoters;
        private int askedStreets;
        private int fault;
        private int place = NONE;

        private boolean readRoll(Town into) {
            into.clear();
            begin(into, 0);
            for (int line = 0; line <= MOST_BYTES && fault == 0 && tape.kind != THE_END; line++) {
                switch (tape.kind) {
                    case WORD_NAME:
                        tellName();
                        break;
                    case WORD_STREET:
                        tellStreet();
                        break;
                    case WORD_VOTER:
                        tellVoter();
                        break;
                    case WORD_BALLOT:
                        if (tellWhoseBallot() && readWording()) {
                            town.tellBallot(own, ballot());
                        }
                        break;
                    default:
                        fail(CANNOT_STAND);
                }
                take(SEMICOLON);
            }
            return fault == 0;
        }

        private boolean readOne(Town inTown, int voter, int unitsOfOthers) {
            begin(inTown, unitsOfOthers);
            beginBallot(voter);
            return readWording() && (tape.kind == THE_END || fail(CANNOT_STAND));
        }

        private Ballot ballot() {
            int[] taken = Arrays.copyOf(steps, Math.min(Math.max(stepCount, 0), steps.length));
            return new Ballot(taken, units - unitsBefore, askedVoters, askedStreets);
        }

        private void begin(Town inTown, int unitsAhead) {
            town = inTown;
            units = unitsAhead;
            fault = 0;
            place = NONE;
            tape.rewind();
        }

        private void beginBallot(int voter) {
            own = voter;
            unitsBefore = units;
            askedVoters = 0;
            askedStreets = 0;
            stepCount = 0;
            height = 0;
            around = 0;
        }

        // Whatever comes behind the first fault is further on, so only the first one is kept.
        private boolean fail(int which) {
            if (fault == 0) {
                fault = tape.kind == BAD ? NO_TOKEN : which;
                place = tape.start;
            }
            return false;
        }

        private boolean take(int kind) {
            if (fault != 0 || tape.kind != kind) {
                return fail(CANNOT_STAND);
            }
            tape.advance();
            return true;
        }

        private boolean tellName() {
            if (town.names >= MOST_NAMES) {
                return fail(CANNOT_STAND);
            }
            tape.advance();
            if (!takeNew(town.nameKeys, town.names)) {
                return false;
            }
            town.names++;
            return true;
        }

        private boolean tellStreet() {
            if (town.streets >= MOST_STREETS) {
                return fail(CANNOT_STAND);
            }
            tape.advance();
            if (!takeNew(town.streetKeys, town.streets)) {
                return false;
            }
            town.streets++;
            return true;
        }

        private boolean tellVoter() {
            if (town.voters >= MOST_VOTERS) {
                return fail(CANNOT_STAND);
            }
            tape.advance();
            if (!takeNew(town.voterKeys, town.voters) || !take(WORD_AT)) {
                return false;
            }
            int street = takeKnown(town.streetKeys, town.streets, 0);
            if (street < 0 || !take(WORD_WEIGHT)) {
                return false;
            }
            int weight = (int) tape.value;
            if (tape.kind == NUMBER && (weight < 1 || weight > MOST_WEIGHT)) {
                return fail(NO_SUCH_NUMBER);
            }
            if (!take(NUMBER)) {
                return false;
            }
            town.addVoter(street, weight);
            return true;
        }

        private boolean tellWhoseBallot() {
            tape.advance();
            int voter = takeKnown(town.voterKeys, town.voters, town.told);
            if (voter < 0) {
                return false;
            }
            beginBallot(voter);
            return true;
        }

        private boolean takeNew(long[] keys, int count) {
            if (tape.kind != SOME_NAME || count < 0 || count >= keys.length) {
                return fail(CANNOT_STAND);
            }
            for (int i = 0; i < count; i++) {
                if (keys[i] == tape.value) {
                    return fail(TOLD_ALREADY);
                }
            }
            keys[count] = tape.value;
            tape.advance();
            return true;
        }

        // Gives the number of the name that stands there; NONE by a fault. The barred ones can't be told here again.
        private int takeKnown(long[] keys, int count, int barred) {
            if (fault != 0 || tape.kind != SOME_NAME) {
                fail(CANNOT_STAND);
                return NONE;
            }
            int which = NONE;
            for (int i = 0; i < count && i < keys.length; i++) {
                if (keys[i] == tape.value) {
                    which = i;
                }
            }
            if (which == NONE) {
                fail(NOT_OF_THE_SORT);
                return NONE;
            }
            if ((barred >> which & 1) == 1) {
                fail(TOLD_ALREADY);
                return NONE;
            }
            tape.advance();
            return which;
        }

        private int takeOther() {
            int voter = takeKnown(town.voterKeys, town.voters, 1 << own);
            if (voter >= 0) {
                askedVoters |= 1 << voter;
            }
            return voter;
        }

        // Gives 1 and the street's number, or EVERYWHERE; NONE by a fault.
        private int takeStreet() {
            int street = EVERYWHERE;
            if (tape.kind == WORD_IN) {
                tape.advance();
                int which = takeKnown(town.streetKeys, town.streets, 0);
                if (which < 0) {
                    return NONE;
                }
                street = which + 1;
            }
            askedStreets |= 1 << street;
            return street;
        }

        private boolean readWording() {
            int want = WANT_WORDING;
            // Each turn takes a token, but the one that finds the end of the wording.
            for (int turn = 0; turn <= MOST_BYTES + 1 && fault == 0 && want != WANT_NOTHING; turn++) {
                switch (want) {
                    case WANT_WORDING:
                        want = readStart();
                        break;
                    case WANT_UNIT:
                        want = readUnit();
                        break;
                    case WANT_SIGN:
                        want = readSign();
                        break;
                    default:
                        want = readElse();
                }
            }
            return fault == 0;
        }

        private int readStart() {
            if (tape.kind == WORD_IF) {
                enter(IN_QUESTION);
                return WANT_UNIT;
            }
            readMark();
            return WANT_ELSE;
        }

        private boolean readMark() {
            int kind = tape.kind;
            switch (kind) {
                case SOME_NAME:
                    int name = countUnit() ? takeKnown(town.nameKeys, town.names, 0) : NONE;
                    addStep(SAY_MARK, 0, name + 1);
                    return name >= 0;
                case WORD_BLANK:
                    addStep(SAY_MARK, 0, 0);
                    return countUnit() && take(kind);
                case WORD_AS:
                    int other = countUnit() && take(kind) ? takeOther() : NONE;
                    addStep(SAY_AS, 0, other);
                    return other >= 0;
                case WORD_MOST:
                case WORD_FEWEST:
                    int street = countUnit() && take(kind) ? takeStreet() : NONE;
                    addStep(kind == WORD_MOST ? SAY_MOST : SAY_FEWEST, street, 0);
                    return street >= 0;
                default:
                    return fail(CANNOT_STAND);
            }
        }

        private int readElse() {
            for (int turn = height; turn > 0 && topKind() == IN_ELSE; turn--) {
                drop(IN_ELSE);
            }
            if (height == 0) {
                return WANT_NOTHING;
            }
            int jump = at(standing, height - 1) >> 4;
            if (take(WORD_ELSE)) {
                put(steps, jump, SKIP + 256 * stepCount);
                put(standing, height - 1, IN_ELSE);
            }
            return WANT_WORDING;
        }

        private int readUnit() {
            int kind = tape.kind;
            switch (kind) {
                case WORD_NOT:
                    // A not begins a relation, so it stands in none and behind no sign of a sum.
                    if (binding(topKind()) >= BIND_RELATION) {
                        fail(CANNOT_STAND);
                    }
                    enter(DO_NOT);
                    return WANT_UNIT;
                case OPENING:
                    countUnit();
                    enter(IN_BRACKETS);
                    return WANT_UNIT;
                case NUMBER:
                    addStep(PUT_NUMBER, 0, (int) tape.value);
                    if (countUnit()) {
                        take(kind);
                    }
                    return WANT_SIGN;
                case WORD_VOTES:
                case WORD_BLANKS:
                    readVotes(kind);
                    return WANT_SIGN;
                case WORD_IS:
                    readIs();
                    return WANT_SIGN;
                default:
                    fail(CANNOT_STAND);
                    return WANT_NOTHING;
            }
        }

        private void readVotes(int kind) {
            int mark = 0;
            if (countUnit() && take(kind) && kind == WORD_VOTES) {
                mark = takeKnown(town.nameKeys, town.names, 0) + 1;
            }
            int street = fault == 0 ? takeStreet() : NONE;
            addStep(PUT_VOTES, street, mark);
        }

        private void readIs() {
            int other = countUnit() && take(WORD_IS) ? takeOther() : NONE;
            int name = other >= 0 ? takeKnown(town.nameKeys, town.names, 0) : NONE;
            addStep(PUT_IS, name + 1, other);
        }

        private int readSign() {
            switch (tape.kind) {
                case PLUS:
                    return joinBy(DO_ADD, BIND_SUM);
                case MINUS:
                    return joinBy(DO_SUBTRACT, BIND_SUM);
                case LESS:
                    return relateBy(DO_LESS);
                case GREATER:
                    return relateBy(DO_GREATER);
                case EQUAL:
                    return relateBy(DO_EQUAL);
                case WORD_AND:
                    return joinBy(DO_AND, BIND_AND);
                case WORD_OR:
                    return joinBy(DO_OR, BIND_OR);
                case CLOSING:
                    return leaveBrackets();
                case WORD_THEN:
                    return leaveQuestion();
                default:
                    fail(CANNOT_STAND);
                    return WANT_NOTHING;
            }
        }

        private int joinBy(int sign, int binds) {
            settle(binds);
            push(sign);
            tape.advance();
            return WANT_UNIT;
        }

        private int relateBy(int sign) {
            settle(BIND_SUM);
            if (binding(topKind()) == BIND_RELATION) {
                fail(CANNOT_STAND);
            }
            push(sign);
            tape.advance();
            return WANT_UNIT;
        }

        private int leaveBrackets() {
            settle(BIND_OR);
            if (topKind() != IN_BRACKETS) {
                fail(CANNOT_STAND);
            }
            drop(IN_BRACKETS);
            tape.advance();
            return WANT_SIGN;
        }

        private int leaveQuestion() {
            settle(BIND_OR);
            if (topKind() != IN_QUESTION) {
                fail(CANNOT_STAND);
            }
            put(standing, height - 1, IN_THEN + 16 * stepCount);
            addStep(SKIP, 0, 0);
            tape.advance();
            return WANT_WORDING;
        }

        private boolean countUnit() {
            if (units >= MOST_UNITS) {
                return fail(CANNOT_STAND);
            }
            units++;
            return true;
        }

        private void enter(int kind) {
            if (around > MOST_AROUND) {
                fail(CANNOT_STAND);
            }
            around++;
            push(kind);
            tape.advance();
        }

        private void push(int kind) {
            if (height >= standing.length) {
                fail(CANNOT_STAND);
            }
            put(standing, height, kind);
            height++;
        }

        private void drop(int kind) {
            if (kind == DO_NOT || kind <= IN_BRACKETS) {
                around--;
            }
            height--;
        }

        // Puts behind the steps all that binds as tightly, or tighter.
        private void settle(int binds) {
            int kind = topKind();
            for (int turn = height; turn > 0 && binding(kind) >= binds; turn--) {
                addStep(kind, 0, 0);
                drop(kind);
                kind = topKind();
            }
        }

        private int topKind() {
            return at(standing, height - 1) & 15;
        }

        private static int binding(int kind) {
            return at(BINDING, kind);
        }

        private void addStep(int kind, int small, int large) {
            put(steps, stepCount, kind + 16 * small + 256 * large);
            stepCount++;
        }
    }

    /** What a ballot's wording comes to; it is never changed, so boxes may hold the same one. */
    private static final class Ballot {
        private final int[] steps;
        private final int units;
        private final int voters;
        private final int streets;

        private Ballot(int[] itsSteps, int itsUnits, int itsVoters, int itsStreets) {
            steps = itsSteps;
            units = itsUnits;
            voters = itsVoters;
            streets = itsStreets;
        }
    }

    /** Who stands in the roll. */
    private static final class Town {
        private final long[] nameKeys = new long[MOST_NAMES];
        private final long[] streetKeys = new long[MOST_STREETS];
        private final long[] voterKeys = new long[MOST_VOTERS];
        private final int[] streetOf = new int[MOST_VOTERS];
        private final int[] weightOf = new int[MOST_VOTERS];
        private final Ballot[] ballots = new Ballot[MOST_VOTERS];
        private int names;
        private int streets;
        private int voters;
        private int told;

        private void clear() {
            names = 0;
            streets = 0;
            voters = 0;
            told = 0;
            for (int i = 0; i < ballots.length; i++) {
                ballots[i] = null;
            }
        }

        private void becomeWider(Town other, int street) {
            names = other.names;
            voters = other.voters;
            for (int i = 0; i < voters; i++) {
                put(streetOf, i, at(other.streetOf, i));
                put(weightOf, i, at(other.weightOf, i));
            }
            addVoter(street, 1);
        }

        private void addVoter(int street, int weight) {
            put(streetOf, voters, street);
            put(weightOf, voters, weight);
            voters++;
        }

        private void tellBallot(int voter, Ballot ballot) {
            if (voter >= 0 && voter < ballots.length) {
                ballots[voter] = ballot;
                told |= 1 << voter;
            }
        }

        private boolean hasName(int name) {
            return name >= 0 && name < names;
        }

        private boolean hasVoter(int voter) {
            return voter >= 0 && voter < voters;
        }

        private boolean hasMark(int mark) {
            return mark >= 0 && mark <= names;
        }

        private int shiftOf(int voter) {
            return 2 * (voters - 1 - voter);
        }

        private int markOf(int row, int voter) {
            return row >> shiftOf(voter) & 3;
        }

        private int withMark(int row, int voter, int mark) {
            return row & ~(3 << shiftOf(voter)) | mark << shiftOf(voter);
        }

        private boolean canBe(int row) {
            switch (names) {
                case 0:
                    return row == 0;
                case 1:
                    return (row & HIGH_BITS) == 0;
                case 2:
                    return (row & row >> 1 & LOW_BITS) == 0;
                default:
                    return true;
            }
        }

        private int bitsInRows(int set) {
            int bits = 0;
            for (int voter = 0; voter < voters; voter++) {
                if ((set >> voter & 1) == 1) {
                    bits |= 3 << shiftOf(voter);
                }
            }
            return bits;
        }

        private int looksOf(int voter, Ballot ballot) {
            int all = ballot.voters;
            for (int other = 0; other < voters; other++) {
                int here = 1 << EVERYWHERE | 1 << at(streetOf, other) + 1;
                if ((ballot.streets & here) != 0) {
                    all |= 1 << other;
                }
            }
            return all & ~(1 << voter);
        }

        private int votes(int row, int own, int street, int mark) {
            int sum = 0;
            int ahead = row;
            // From the last voter on, as a row's lowest bits are that one's; this is asked most often of all.
            for (int voter = voters - 1; voter >= 0; voter--) {
                if ((ahead & 3) == mark && voter != own) {
                    boolean here = street == EVERYWHERE || street == at(streetOf, voter) + 1;
                    sum += here ? at(weightOf, voter) : 0;
                }
                ahead >>= 2;
            }
            return sum;
        }

        private int mostVoted(int row, int own, int street) {
            int best = 0;
            int most = 0;
            for (int mark = 1; mark <= names; mark++) {
                int sum = votes(row, own, street, mark);
                if (sum > most) {
                    best = mark;
                    most = sum;
                }
            }
            return best;
        }

        private int fewestVoted(int row, int own, int street) {
            int best = 0;
            int fewest = 0;
            for (int mark = 1; mark <= names; mark++) {
                int sum = votes(row, own, street, mark);
                if (best == 0 || sum < fewest) {
                    best = mark;
                    fewest = sum;
                }
            }
            return best;
        }

        // Gives 1 and the name's number, or 0.
        private int chosenIn(int row) {
            int best = 0;
            int most = 0;
            for (int mark = 1; mark <= names; mark++) {
                int sum = votes(row, NONE, EVERYWHERE, mark);
                if (sum > most) {
                    best = mark;
                    most = sum;
                } else if (sum == most) {
                    best = 0;
                }
            }
            return best;
        }
    }

    /** Tells what ballots say of a row. */
    private static final class Speaker {
        private final int[] values = new int[64];
        private int height;

        private int hear(Ballot ballot, int own, int row, Town town) {
            int[] steps = ballot.steps;
            int onwards = 0;
            height = 0;
            for (int i = 0; i < steps.length; i++) {
                if (i < onwards) {
                    continue;
                }
                int small = steps[i] >> 4 & 15;
                int large = steps[i] >> 8;
                switch (steps[i] & 15) {
                    case SAY_MARK:
                        return large;
                    case SAY_AS:
                        return town.markOf(row, large);
                    case SAY_MOST:
                        return town.mostVoted(row, own, small);
                    case SAY_FEWEST:
                        return town.fewestVoted(row, own, small);
                    case PUT_NUMBER:
                        push(large);
                        break;
                    case PUT_VOTES:
                        push(town.votes(row, own, small, large));
                        break;
                    case PUT_IS:
                        push(town.markOf(row, large) == small ? 1 : 0);
                        break;
                    case DO_NOT:
                        push(pop() == 0 ? 1 : 0);
                        break;
                    case SKIP:
                        onwards = pop() == 0 ? large : 0;
                        break;
                    default:
                        int second = pop();
                        push(joined(steps[i] & 15, pop(), second));
                }
            }
            return 0;
        }

        private int firstBroken(Earnest ballots, int count, int row, Town town) {
            for (int voter = 0; voter < count; voter++) {
                if (hear(ballots.ballotOf(voter), voter, row, town) != town.markOf(row, voter)) {
                    return voter;
                }
            }
            return NONE;
        }

        private static int joined(int kind, int first, int second) {
            boolean so;
            switch (kind) {
                case DO_ADD:
                    return first + second;
                case DO_SUBTRACT:
                    return first - second;
                case DO_LESS:
                    so = first < second;
                    break;
                case DO_GREATER:
                    so = first > second;
                    break;
                case DO_EQUAL:
                    so = first == second;
                    break;
                case DO_AND:
                    so = first != 0 && second != 0;
                    break;
                default:
                    so = first != 0 || second != 0;
            }
            return so ? 1 : 0;
        }

        private void push(int value) {
            put(values, height, value);
            height++;
        }

        private int pop() {
            height--;
            return at(values, height);
        }
    }

    /** What the ballots say of every row, and what follows from that. */
    private static final class Rows {
        private final Speaker speaker = new Speaker();
        private final int[] kept = new int[1 << MOST_VOTERS];
        private int[] said = new int[1];
        private int[] standing = new int[1];
        private int[] near = new int[1];
        private int standingCount;
        private int nearCount;
        private int stale;
        private boolean fresh;

        private void forget(int voters) {
            stale |= voters;
            fresh = false;
        }

        private void refresh(Town town, Earnest ballots) {
            if (fresh) {
                return;
            }
            int size = 1 << 2 * town.voters;
            if (said.length < size) {
                said = new int[size];
                stale = ALL_VOTERS;
            } else if (stale == ALL_VOTERS) {
                // What was said in an earlier roll may have had more voters.
                Arrays.fill(said, 0);
            }
            for (int voter = 0; voter < town.voters; voter++) {
                if ((stale >> voter & 1) == 1) {
                    hearOfAll(voter, ballots.ballotOf(voter), size, town);
                }
            }
            stale = 0;
            makeRoom(size, town);
            sort(size, town);
            closeDownwards();
            fresh = true;
        }

        private void hearOfAll(int voter, Ballot ballot, int size, Town town) {
            int looked = town.bitsInRows(town.looksOf(voter, ballot));
            int own = town.bitsInRows(1 << voter);
            for (int row = 0; row < size; row++) {
                if (town.canBe(row)) {
                    // A ballot says the same of all rows that are alike where it looks; the least of them comes first.
                    int alike = row & looked;
                    int here = alike == row
                        ? town.withMark(0, voter, speaker.hear(ballot, voter, row, town))
                        : at(said, alike) & own;
                    put(said, row, at(said, row) & ~own | here);
                }
            }
        }

        private static int brokenBits(int row, int saidRow) {
            int other = row ^ saidRow;
            return (other | other >> 1) & LOW_BITS;
        }

        // Counts ahead, so that lists grow to what they need and are used again.
        private void makeRoom(int size, Town town) {
            int standingRows = 0;
            int nearRows = 0;
            for (int row = 0; row < size; row++) {
                if (town.canBe(row)) {
                    int broken = Integer.bitCount(brokenBits(row, at(said, row)));
                    standingRows += broken == 0 ? 1 : 0;
                    nearRows += broken <= MOST_SWAYED ? 1 : 0;
                }
            }
            if (standingRows > standing.length) {
                standing = new int[Math.max(standingRows, 2 * standing.length)];
            }
            if (nearRows > near.length) {
                near = new int[Math.max(nearRows, 2 * near.length)];
            }
        }

        private void sort(int size, Town town) {
            standingCount = 0;
            nearCount = 0;
            Arrays.fill(kept, 0);
            for (int row = 0; row < size; row++) {
                if (town.canBe(row)) {
                    int broken = brokenBits(row, at(said, row));
                    put(kept, keptBits(broken, size), 1);
                    if (Integer.bitCount(broken) <= MOST_SWAYED) {
                        put(near, nearCount, row | town.chosenIn(row) << 16);
                        nearCount++;
                    }
                    if (broken == 0) {
                        put(standing, standingCount, row);
                        standingCount++;
                    }
                }
            }
        }

        // The kept ballots as a set of eight bits, which stand as the voters do in a row: one bit of two for each.
        private static int keptBits(int broken, int size) {
            return narrowed(~broken & LOW_BITS & size - 1);
        }

        private static int narrowed(int bits) {
            int pairs = (bits | bits >> 1) & 0x3333;
            int fours = (pairs | pairs >> 2) & 0x0F0F;
            return (fours | fours >> 4) & 0x00FF;
        }

        // Who can be kept together can be kept in fewer, too.
        private void closeDownwards() {
            for (int set = kept.length - 1; set >= 0; set--) {
                for (int voter = 0; voter < MOST_VOTERS && kept[set] == 1; voter++) {
                    put(kept, set & ~(1 << voter), 1);
                }
            }
        }

        private boolean hasStanding(int i) {
            return i >= 0 && i < standingCount;
        }

        private int leastUnkept(Town town) {
            int least = NONE;
            for (int set = 0; set < 1 << town.voters; set++) {
                boolean fewer = least == NONE || Integer.bitCount(set) < Integer.bitCount(least);
                if (fewer && at(kept, narrowed(town.bitsInRows(set) & LOW_BITS)) == 0) {
                    least = set;
                }
            }
            return least;
        }
    }

    /** Rounds of opening in an order, and the order that comes to rest soonest. */
    private static final class Orders {
        private final int[] turns = new int[MOST_VOTERS];
        private int count;
        private int soonestRest;
        private int soonestOrder;
        private boolean known;

        private boolean take(int order, int voters) {
            count = voters;
            int digits = order;
            int seen = 0;
            for (int i = voters - 1; i >= 0; i--) {
                int voter = digits % 10 - 1;
                digits /= 10;
                if (voter < 0 || voter >= voters) {
                    return false;
                }
                seen |= 1 << voter;
                put(turns, i, voter);
            }
            return digits == 0 && seen == (1 << voters) - 1;
        }

        private int roundsToRest(int[] said, int most) {
            int row = 0;
            int earlier = NONE;
            for (int rounds = 0; rounds <= most; rounds++) {
                int before = row;
                for (int i = 0; i < count; i++) {
                    int bits = 3 << 2 * (count - 1 - at(turns, i));
                    row = row & ~bits | at(said, row) & bits;
                }
                if (row == before) {
                    return rounds;
                }
                // A row that comes again comes again for ever.
                if (row == earlier) {
                    return NONE;
                }
                if (Integer.bitCount(rounds) <= 1) {
                    earlier = row;
                }
            }
            return NONE;
        }

        private void search(int[] said, int voters) {
            count = voters;
            soonestRest = NONE;
            soonestOrder = NONE;
            int orders = 1;
            for (int i = 0; i < voters; i++) {
                put(turns, i, i);
                orders *= i + 1;
            }
            for (int i = 0; i < orders && soonestRest != 0; i++) {
                int most = soonestRest == NONE ? MOST_ROUNDS : soonestRest - 1;
                int rounds = roundsToRest(said, most);
                if (rounds != NONE) {
                    soonestRest = rounds;
                    soonestOrder = digits();
                }
                goOn();
            }
            known = true;
        }

        private int digits() {
            int order = 0;
            for (int i = 0; i < count; i++) {
                order = order * 10 + at(turns, i) + 1;
            }
            return order;
        }

        // To the next order by who comes first, second, ..
        private void goOn() {
            int low = count - 2;
            while (low >= 0 && at(turns, low) > at(turns, low + 1)) {
                low--;
            }
            if (low < 0) {
                return;
            }
            int high = count - 1;
            while (high > low && at(turns, high) < at(turns, low)) {
                high--;
            }
            swap(low, high);
            for (int i = low + 1, j = count - 1; i < j; i++, j--) {
                swap(i, j);
            }
        }

        private void swap(int i, int j) {
            int first = at(turns, i);
            put(turns, i, at(turns, j));
            put(turns, j, first);
        }
    }

    /** The fewest ballots whose change makes a name chosen in all countings. */
    private static final class Sway {
        private final int[] sets = new int[MOST_NAMES];
        private final int[] marks = new int[MOST_NAMES];
        private final int[] outcomes = new int[1 << 2 * MOST_SWAYED];
        private int known;

        private boolean knows(int name) {
            return (known >> name & 1) == 1;
        }

        private int answer(int name, int what) {
            int set = at(sets, name);
            if (set == NONE) {
                return NONE;
            }
            switch (what) {
                case 0:
                    return Integer.bitCount(set);
                case 1:
                    return set;
                default:
                    return at(marks, name);
            }
        }

        private void search(int name, Rows rows, Town town) {
            known |= 1 << name;
            put(sets, name, NONE);
            for (int many = 0; many <= MOST_SWAYED; many++) {
                for (int set = 0; set < 1 << town.voters; set++) {
                    if (Integer.bitCount(set) != many) {
                        continue;
                    }
                    int least = leastMarks(name, set, rows, town);
                    if (least != NONE) {
                        put(sets, name, set);
                        put(marks, name, digits(least, many));
                        return;
                    }
                }
            }
        }

        // With the ballots of a set changed, those rows stand that break no other ballot.
        private int leastMarks(int name, int set, Rows rows, Town town) {
            int free = town.bitsInRows(set);
            Arrays.fill(outcomes, 0);
            for (int i = 0; i < rows.nearCount; i++) {
                int row = at(rows.near, i) & ALL_BITS;
                int won = at(rows.near, i) >> 16;
                if (((row ^ at(rows.said, row)) & ~free) == 0) {
                    int told = marksOf(set, row, town);
                    put(outcomes, told, at(outcomes, told) | (won == name + 1 ? 1 : 2));
                }
            }
            for (int told = 0; told < outcomes.length; told++) {
                if (outcomes[told] == 1) {
                    return told;
                }
            }
            return NONE;
        }

        private static int marksOf(int set, int row, Town town) {
            int told = 0;
            for (int voter = 0; voter < town.voters; voter++) {
                if ((set >> voter & 1) == 1) {
                    told = told << 2 | town.markOf(row, voter);
                }
            }
            return told;
        }

        private static int digits(int told, int many) {
            int number = 0;
            for (int i = many - 1; i >= 0; i--) {
                number = number * 10 + (told >> 2 * i & 3);
            }
            return number;
        }
    }

    /** All small texts that hold to a clause of wording. */
    private static final class Texts {
        private int voters;
        private int rowBits;
        private int count;
        private int countOfNone;
        private int firstOfNone;
        private int mostCountings;

        private void show(int n, int clause) {
            voters = n;
            rowBits = 1 << n - 1;
            count = 0;
            countOfNone = 0;
            firstOfNone = NONE;
            mostCountings = 0;
            int end = 1 << n * rowBits;
            for (int text = 0; text < end; text++) {
                if (holdsTo(clause, text)) {
                    tally(text);
                }
            }
        }

        private void tally(int text) {
            int standing = 0;
            for (int hands = 0; hands < 1 << voters; hands++) {
                standing += agrees(text, hands) ? 1 : 0;
            }
            if (standing == 0 && firstOfNone == NONE) {
                firstOfNone = text;
            }
            count++;
            countOfNone += standing == 0 ? 1 : 0;
            mostCountings = Math.max(mostCountings, standing);
        }

        private int rowOf(int text, int voter) {
            return text >> rowBits * (voters - 1 - voter) & (1 << rowBits) - 1;
        }

        private boolean agrees(int text, int hands) {
            for (int voter = 0; voter < voters; voter++) {
                int ahead = hands & (1 << voter) - 1;
                int behind = hands >> voter + 1 << voter;
                if ((rowOf(text, voter) >> (ahead | behind) & 1) != (hands >> voter & 1)) {
                    return false;
                }
            }
            return true;
        }

        private boolean holdsTo(int clause, int text) {
            for (int voter = 0; voter < voters; voter++) {
                int row = rowOf(text, voter);
                if (clause == 1 && !goesByElders(row, voter) || clause == 2 && !grows(row)) {
                    return false;
                }
            }
            return true;
        }

        private boolean goesByElders(int row, int voter) {
            for (int others = 0; others < rowBits; others++) {
                int elders = others & (1 << voter) - 1;
                if ((row >> others & 1) != (row >> elders & 1)) {
                    return false;
                }
            }
            return true;
        }

        private boolean grows(int row) {
            for (int others = 0; others < rowBits; others++) {
                for (int other = 1; other < rowBits; other <<= 1) {
                    if ((row >> others & 1) > (row >> (others | other) & 1)) {
                        return false;
                    }
                }
            }
            return true;
        }
    }

    /** What was told of voters' marks, and when. */
    private static final class Hands {
        private final int[] voters = new int[MOST_HANDS];
        private final int[] marks = new int[MOST_HANDS];
        private final int[] toldAt = new int[MOST_HANDS];
        private final int[] untoldAt = new int[MOST_HANDS];
        private int count;
        private int boundBits;
        private int boundMarks;

        private int tell(int voter, int mark, int time) {
            if (count >= MOST_HANDS) {
                return NONE;
            }
            put(voters, count, voter);
            put(marks, count, mark);
            put(toldAt, count, time);
            put(untoldAt, count, NONE);
            count++;
            return count - 1;
        }

        private boolean takeBack(int hand, int time) {
            if (hand < 0 || hand >= count || at(untoldAt, hand) != NONE) {
                return false;
            }
            put(untoldAt, hand, time);
            return true;
        }

        private void become(Hands other) {
            count = other.count;
            for (int i = 0; i < MOST_HANDS; i++) {
                put(voters, i, at(other.voters, i));
                put(marks, i, at(other.marks, i));
                put(toldAt, i, at(other.toldAt, i));
                put(untoldAt, i, at(other.untoldAt, i));
            }
        }

        private boolean countsAt(int hand, int k) {
            int untold = at(untoldAt, hand);
            return at(toldAt, hand) <= k && (untold == NONE || untold > k);
        }

        // False if two that count can't both be so.
        private boolean gather(int k, Town town) {
            boundBits = 0;
            boundMarks = 0;
            for (int i = 0; i < count; i++) {
                if (countsAt(i, k)) {
                    int bits = town.bitsInRows(1 << at(voters, i));
                    int wanted = town.withMark(0, at(voters, i), at(marks, i));
                    if ((boundBits & bits) != 0 && (boundMarks & bits) != wanted) {
                        return false;
                    }
                    boundBits |= bits;
                    boundMarks |= wanted;
                }
            }
            return true;
        }

        private boolean agreeWith(int row) {
            return (row & boundBits) == boundMarks;
        }
    }

    /** Ballots, marks and hands as they are in earnest, or as a box keeps them. */
    private static final class Earnest {
        private final Ballot blank = new Ballot(new int[0], 0, 0, 0);
        private final Ballot[] ballots = new Ballot[MOST_VOTERS];
        private final Hands hands = new Hands();
        private int marks;
        private boolean filled;

        private void beginWith(Town town) {
            marks = 0;
            hands.count = 0;
            for (int i = 0; i < ballots.length; i++) {
                ballots[i] = i < town.ballots.length ? town.ballots[i] : null;
            }
        }

        private void become(Earnest other) {
            marks = other.marks;
            hands.become(other.hands);
            for (int i = 0; i < ballots.length; i++) {
                ballots[i] = i < other.ballots.length ? other.ballots[i] : null;
            }
        }

        private Ballot ballotOf(int voter) {
            boolean told = voter >= 0 && voter < ballots.length && ballots[voter] != null;
            return told ? ballots[voter] : blank;
        }

        private void putBallot(int voter, Ballot ballot) {
            if (voter >= 0 && voter < ballots.length) {
                ballots[voter] = ballot;
            }
        }

        private int units() {
            int sum = 0;
            for (int i = 0; i < ballots.length; i++) {
                sum += ballotOf(i).units;
            }
            return sum;
        }

        private int otherBallots(Earnest other) {
            int set = 0;
            for (int i = 0; i < ballots.length && i < other.ballots.length; i++) {
                if (ballots[i] != other.ballots[i]) {
                    set |= 1 << i;
                }
            }
            return set;
        }
    }
}
