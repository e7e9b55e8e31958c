import java.util.Arrays;
import java.util.NoSuchElementException;

/** A hall that has to take one of some things, and who may strike what; see the project's document. */
public final class StrikeHall {
    public static final int NONE = -1;

    private static final int MOST_THINGS = 9;
    private static final int MOST_PEOPLE = 8;
    private static final int MOST_TURNS = MOST_THINGS - 1;
    private static final int MOST_TOLD = 8;
    private static final int MOST_BYTES = 600;
    private static final int MOST_WAYS = 240;
    private static final int MOST_ROWS = 12;
    private static final int HOLDERS = 8;
    private static final int MOST_THINGS_TO_LIE = 5;
    // Above every number of ends, places and sums of them.
    private static final int MANY = 1000000;

    private static final int PARTS = 0;
    private static final int STEPS = 1;
    private static final int TOLD = 2;

    private static final int AN_END = 0;
    private static final int A_ROW = 1;
    private static final int NOTHING = 2;

    private static final int[] FACTORIALS = {1, 1, 2, 6, 24, 120, 720, 5040, 40320, 362880};

    private final Hall now = new Hall();
    // What would be in another hall is worked out here, so that no call has to make one.
    private final Hall spare = new Hall();
    private final Reader reader = new Reader();
    private final Sets sets = new Sets();
    private final Sight sight = new Sight();
    private final TurnRows turnRows = new TurnRows();
    private final OpenTies openTies = new OpenTies();
    private final Board board = new Board();
    private final int[] falseOrder = new int[MOST_THINGS];

    public StrikeHall() {
    }

    public int feed(int a, int b, int c, int d, int e) {
        if (!reader.hasRoomFor(20)) {
            return NONE;
        }
        reader.put(a);
        reader.put(b);
        reader.put(c);
        reader.put(d);
        reader.put(e);
        return reader.tapeLength;
    }

    public int hall(int n) throws IllegalArgumentException {
        if (n < 0 || n > reader.tapeLength) {
            throw new IllegalArgumentException("the tape has not so many bytes");
        }
        int kind = reader.read(n);
        if (kind == 0) {
            now.takeFrom(reader.draft);
            forgetOldHall();
        }
        return kind;
    }

    private void forgetOldHall() {
        turnRows.forget();
        openTies.forget();
        board.empty();
    }

    public int fault() {
        return reader.faultAt;
    }

    public int count(int what) throws NoSuchElementException {
        switch (what) {
            case 0:
                return now.things;
            case 1:
                return now.people;
            case 2:
                return now.turnCount;
            case 3:
                return now.law;
            case 4:
                return board.rowCount;
            case 5:
                return reader.tapeLength;
            case 6:
                return now.allWeight;
            default:
                throw new NoSuchElementException("no such count");
        }
    }

    public int place(int who, int thing) throws NoSuchElementException {
        needPerson(who);
        needThing(thing);
        return now.placeOf(who, thing);
    }

    public int turn(int i) throws NoSuchElementException {
        if (i < 0 || i >= now.turnCount) {
            throw new NoSuchElementException("no such turn");
        }
        return now.turns[i];
    }

    public int may(int set) {
        return now.mayStrike(set);
    }

    public int keep(int set, int thing) throws NoSuchElementException {
        needThing(thing);
        return now.keptBy(set, thing);
    }

    public boolean strikes(int set, int thing) throws NoSuchElementException {
        needThing(thing);
        int inside = set & now.allPeople();
        return inside != 0 && Integer.bitCount(now.keptBy(inside, thing)) >= now.things - now.mayStrike(inside);
    }

    public int striker(int thing) throws NoSuchElementException {
        needThing(thing);
        sets.weigh(now);
        return sets.strikerOf(now, thing, false);
    }

    public int core() {
        return sets.coreOf(now);
    }

    public int some(int row) throws NoSuchElementException {
        needWholeRow(row);
        int remaining = now.allThings();
        for (int i = 0; i < now.people; i++) {
            int who = personInRow(row, i);
            remaining = now.strikeOften(who, remaining, now.mayStrike(1 << who));
        }
        return remaining;
    }

    private static int personInRow(int row, int i) {
        return (row >> (3 * i)) & 7;
    }

    private void needWholeRow(int row) {
        int told = 0;
        for (int i = 0; i < now.people; i++) {
            int who = personInRow(row, i);
            needPerson(who);
            if ((told >> who & 1) == 1) {
                throw new NoSuchElementException("told twice");
            }
            told |= 1 << who;
        }
    }

    public int plain() {
        return now.plainEnd();
    }

    public int rows(int what) throws NoSuchElementException {
        switch (what) {
            case 0:
                return turnRows.leftBehindSome(now);
            case 1:
                return turnRows.leftBehindAll(now);
            case 2:
                return TurnRows.rowsOf(now);
            default:
                throw new NoSuchElementException("no such answer about rows");
        }
    }

    public int deep() {
        return sight.endOf(now);
    }

    public int first() {
        return sight.openingStrike(now);
    }

    public int back() {
        return now.backEnd();
    }

    public int lie(int who) throws NoSuchElementException {
        needPerson(who);
        if (now.things > MOST_THINGS_TO_LIE) {
            return NONE;
        }
        int honest = now.greatestPlace(who, now.plainEnd());
        spare.takeFrom(now);
        int orders = FACTORIALS[now.things];
        for (int number = 0; number < orders; number++) {
            nthOrder(number, now.things, falseOrder);
            spare.putStrictOrder(who, falseOrder);
            if (now.greatestPlace(who, spare.plainEnd()) < honest) {
                return packed(falseOrder, now.things);
            }
        }
        return NONE;
    }

    private static int packed(int[] order, int size) {
        int bits = 0;
        for (int i = 0; i < size && i < order.length; i++) {
            bits |= order[i] << (4 * i);
        }
        return bits;
    }

    /** Orders are numbered as rows, so the first that serves is the first as a row. */
    private static void nthOrder(int number, int size, int[] order) {
        int used = 0;
        int rest = number;
        for (int i = 0; i < size && i < order.length; i++) {
            int block = factorial(size - 1 - i);
            int chosen = nthUnused(used, rest / block, size);
            order[i] = chosen;
            used |= 1 << chosen;
            rest %= block;
        }
    }

    private static int nthUnused(int used, int nth, int size) {
        int skip = nth;
        for (int thing = 0; thing < size; thing++) {
            if ((used >> thing & 1) == 0) {
                if (skip == 0) {
                    return thing;
                }
                skip--;
            }
        }
        return 0;
    }

    /** Never below 1, so that it may divide. */
    private static int factorial(int size) {
        return size >= 0 && size < FACTORIALS.length ? Math.max(1, FACTORIALS[size]) : 1;
    }

    public int trades(int what) throws NoSuchElementException {
        if (what != 0 && what != 1) {
            throw new NoSuchElementException("no such answer about trades");
        }
        int earliest = NONE;
        int paying = 0;
        int before = now.plainEnd();
        spare.takeFrom(now);
        for (int i = 0; i < now.turnCount; i++) {
            for (int j = i + 1; j < now.turnCount; j++) {
                if (tradePays(i, j, before)) {
                    earliest = paying == 0 ? 8 * i + j : earliest;
                    paying++;
                }
            }
        }
        return what == 0 ? paying : earliest;
    }

    private boolean tradePays(int i, int j, int before) {
        int one = now.turns[i];
        int other = now.turns[j];
        if (one == other) {
            return false;
        }
        spare.turns[i] = other;
        spare.turns[j] = one;
        int after = spare.plainEnd();
        spare.turns[i] = one;
        spare.turns[j] = other;
        return now.greatestPlace(one, after) < now.greatestPlace(one, before)
            && now.greatestPlace(other, after) < now.greatestPlace(other, before);
    }

    public int grumble(int thing, int what) throws NoSuchElementException {
        needThing(thing);
        switch (what) {
            case 0:
                return now.greatestGrumble(thing);
            case 1:
                return now.wholeGrumble(thing);
            default:
                throw new NoSuchElementException("no such grumble");
        }
    }

    public int least() {
        return leastGrumbled();
    }

    private int leastGrumbled() {
        int core = sets.coreOf(now);
        int among = core == 0 ? now.allThings() : core;
        int best = NONE;
        for (int thing = 0; thing < now.things; thing++) {
            if ((among >> thing & 1) == 1 && (best == NONE || grumblesLess(thing, best))) {
                best = thing;
            }
        }
        return best;
    }

    private boolean grumblesLess(int thing, int than) {
        int greatest = now.greatestGrumble(thing);
        int greatestThan = now.greatestGrumble(than);
        return greatest < greatestThan
            || greatest == greatestThan && now.wholeGrumble(thing) < now.wholeGrumble(than);
    }

    public int heads(int thing) throws NoSuchElementException {
        needThing(thing);
        return now.headWeight(thing);
    }

    public int head(int what) throws NoSuchElementException {
        switch (what) {
            case 0:
                return now.thingOfMostHeads();
            case 1:
                return now.greatestGrumble(now.thingOfMostHeads()) - now.greatestGrumble(leastGrumbled());
            default:
                throw new NoSuchElementException("no such answer about the head");
        }
    }

    public int copy(int thing) throws NoSuchElementException {
        needThing(thing);
        if (now.things >= MOST_THINGS) {
            return NONE;
        }
        spare.takeFrom(now);
        spare.putCopy(thing);
        return sets.coreOf(spare);
    }

    public int without(int who) throws NoSuchElementException {
        needPerson(who);
        spare.takeFrom(now);
        spare.dropPerson(who);
        return sets.coreOf(spare);
    }

    public int add(int thing) throws NoSuchElementException {
        needThing(thing);
        if (now.things >= MOST_THINGS) {
            return NONE;
        }
        now.putCopy(thing);
        forgetOldHall();
        return now.things - 1;
    }

    public int ties(int what) throws NoSuchElementException {
        if (what < 0 || what > 3) {
            throw new NoSuchElementException("no such answer about ties");
        }
        openTies.learn(now, spare, sets);
        if (openTies.spent()) {
            return NONE;
        }
        switch (what) {
            case 0:
                return openTies.ways;
            case 1:
                return openTies.inAll;
            case 2:
                return now.allThings() & ~openTies.inSome;
            default:
                return openTies.inSome & ~openTies.inAll;
        }
    }

    public int ask() {
        openTies.learn(now, spare, sets);
        return openTies.spent() ? NONE : openTies.bestToAsk(now.people);
    }

    public int row(int many, long strikes) {
        if (many < 0 || many > now.turnCount || board.rowCount >= MOST_ROWS) {
            return NONE;
        }
        for (int i = 0; i < many; i++) {
            if (Board.strikeIn(strikes, i) >= now.things) {
                return NONE;
            }
        }
        return board.addRow(many, strikes);
    }

    public int judge(int row, int what) throws NoSuchElementException {
        needRow(row);
        switch (what) {
            case 0:
                return board.many[row];
            case 1:
                return board.firstUnlawful(row);
            case 2:
                return board.firstNotPlain(row, now);
            case 3:
                return now.allThings() & ~board.struckBy(row);
            default:
                throw new NoSuchElementException("no such judgement");
        }
    }

    public boolean hold(int holder, int kind, int number) throws NoSuchElementException {
        switch (kind) {
            case AN_END:
                needThing(number);
                break;
            case A_ROW:
                needRow(number);
                break;
            case NOTHING:
                break;
            default:
                throw new NoSuchElementException("no such kind");
        }
        if (holder < 0 || holder >= HOLDERS) {
            return false;
        }
        board.kinds[holder] = kind;
        board.numbers[holder] = number;
        return true;
    }

    public int held(int holder, int kind) throws NoSuchElementException {
        if (kind != AN_END && kind != A_ROW) {
            throw new NoSuchElementException("no such kind");
        }
        needHolder(holder);
        int why = board.whyNot(holder, kind);
        return why == 0 ? 10 + board.numbers[holder] : why;
    }

    public int left(int end, int row) throws NoSuchElementException {
        needHolder(end);
        needHolder(row);
        int whyNoEnd = board.whyNot(end, AN_END);
        int whyNoRow = board.whyNot(row, A_ROW);
        if (whyNoEnd != 0 && whyNoRow != 0) {
            return Math.min(whyNoEnd, whyNoRow);
        }
        if (whyNoEnd != 0 || whyNoRow != 0) {
            return Math.max(whyNoEnd, whyNoRow);
        }
        int struck = board.struckBy(board.numbers[row]);
        return (struck >> board.numbers[end] & 1) == 1 ? 10 : 11;
    }

    private void needThing(int thing) {
        if (thing < 0 || thing >= now.things) {
            throw new NoSuchElementException("no such thing");
        }
    }

    private void needPerson(int who) {
        if (who < 0 || who >= now.people) {
            throw new NoSuchElementException("no such one of people");
        }
    }

    private void needRow(int row) {
        if (row < 0 || row >= board.rowCount) {
            throw new NoSuchElementException("no such row");
        }
    }

    private void needHolder(int holder) {
        if (holder < 0 || holder >= HOLDERS) {
            throw new NoSuchElementException("no such holder");
        }
    }

    /** Things, people, law and turns. Things of one place are one group, so the places alone tell an order. */
    private static final class Hall {
        private int things = 2;
        private int people = 0;
        private int allWeight = 0;
        private int law = PARTS;
        private int step = 1;
        private int toldCount = 0;
        private int turnCount = 0;
        // A bit for each of the people whose groups are named: others have no first group that counts.
        private int named = 0;
        private final int[] weights = new int[MOST_PEOPLE];
        private final int[] places = new int[MOST_PEOPLE * MOST_THINGS];
        private final int[] told = new int[MOST_TOLD];
        private final int[] turns = new int[MOST_TURNS];

        void reset() {
            things = 2;
            people = 0;
            allWeight = 0;
            law = PARTS;
            step = 1;
            toldCount = 0;
            turnCount = 0;
            named = 0;
        }

        void takeFrom(Hall other) {
            things = other.things;
            people = other.people;
            allWeight = other.allWeight;
            law = other.law;
            step = other.step;
            toldCount = other.toldCount;
            turnCount = other.turnCount;
            named = other.named;
            System.arraycopy(other.weights, 0, weights, 0, MOST_PEOPLE);
            System.arraycopy(other.places, 0, places, 0, MOST_PEOPLE * MOST_THINGS);
            System.arraycopy(other.told, 0, told, 0, MOST_TOLD);
            System.arraycopy(other.turns, 0, turns, 0, MOST_TURNS);
        }

        int allThings() {
            return (1 << things) - 1;
        }

        int allPeople() {
            return (1 << people) - 1;
        }

        int placeOf(int who, int thing) {
            return places[who * MOST_THINGS + thing];
        }

        void putPlace(int who, int thing, int place) {
            places[who * MOST_THINGS + thing] = place;
        }

        int groupSize(int who, int place) {
            int size = 0;
            for (int thing = 0; thing < things; thing++) {
                if (placeOf(who, thing) == place) {
                    size++;
                }
            }
            return size;
        }

        int weightOf(int set) {
            int weight = 0;
            for (int who = 0; who < people; who++) {
                if ((set >> who & 1) == 1) {
                    weight += weights[who];
                }
            }
            return weight;
        }

        int mayStrike(int set) {
            int inside = set & allPeople();
            if (inside == 0) {
                return 0;
            }
            return Math.min(things - 1, lawGives(inside));
        }

        private int lawGives(int set) {
            switch (law) {
                case STEPS:
                    return step > 0 ? weightOf(set) / step : 0;
                case TOLD:
                    return toldCount > 0 ? told[Math.min(Integer.bitCount(set), toldCount) - 1] : 0;
                default:
                    return allWeight > 0 ? (things * weightOf(set) + allWeight - 1) / allWeight - 1 : 0;
            }
        }

        /** The things that one rather has. */
        int dearerThan(int who, int thing) {
            int place = placeOf(who, thing);
            int bits = 0;
            for (int other = 0; other < things; other++) {
                if (placeOf(who, other) < place) {
                    bits |= 1 << other;
                }
            }
            return bits;
        }

        int keptBy(int set, int thing) {
            int bits = allThings();
            for (int who = 0; who < people; who++) {
                if ((set >> who & 1) == 1) {
                    bits &= dearerThan(who, thing);
                }
            }
            return bits;
        }

        int plainStrike(int who, int remaining) {
            int worst = NONE;
            for (int thing = 0; thing < things; thing++) {
                if ((remaining >> thing & 1) == 1
                    && (worst == NONE || placeOf(who, thing) >= placeOf(who, worst))) {
                    worst = thing;
                }
            }
            return worst;
        }

        /** The last thing is never struck: the hall has to take one. */
        int strikePlainly(int who, int remaining) {
            if (Integer.bitCount(remaining) < 2) {
                return remaining;
            }
            return remaining & ~(1 << plainStrike(who, remaining));
        }

        int strikeOften(int who, int remaining, int times) {
            int bits = remaining;
            for (int i = 0; i < times; i++) {
                bits = strikePlainly(who, bits);
            }
            return bits;
        }

        int plainEnd() {
            int remaining = allThings();
            for (int i = 0; i < turnCount; i++) {
                remaining = strikePlainly(turns[i], remaining);
            }
            return remaining;
        }

        int backEnd() {
            int remaining = allThings();
            for (int i = turnCount - 1; i >= 0; i--) {
                remaining = strikePlainly(turns[i], remaining);
            }
            return remaining;
        }

        int greatestPlace(int who, int bits) {
            int greatest = 0;
            for (int thing = 0; thing < things; thing++) {
                if ((bits >> thing & 1) == 1) {
                    greatest = Math.max(greatest, placeOf(who, thing));
                }
            }
            return greatest;
        }

        int sumOfPlaces(int who, int bits) {
            int sum = 0;
            for (int thing = 0; thing < things; thing++) {
                if ((bits >> thing & 1) == 1) {
                    sum += placeOf(who, thing);
                }
            }
            return sum;
        }

        int greatestGrumble(int thing) {
            int greatest = 0;
            for (int who = 0; who < people; who++) {
                greatest = Math.max(greatest, placeOf(who, thing));
            }
            return greatest;
        }

        int wholeGrumble(int thing) {
            int sum = 0;
            for (int who = 0; who < people; who++) {
                sum += placeOf(who, thing) * weights[who];
            }
            return sum;
        }

        int headWeight(int thing) {
            int weight = 0;
            for (int who = 0; who < people; who++) {
                if ((named >> who & 1) == 1 && placeOf(who, thing) == 0) {
                    weight += weights[who];
                }
            }
            return weight;
        }

        int thingOfMostHeads() {
            int best = 0;
            for (int thing = 1; thing < things; thing++) {
                if (headWeight(thing) > headWeight(best)) {
                    best = thing;
                }
            }
            return best;
        }

        void putStrictOrder(int who, int[] order) {
            for (int i = 0; i < things && i < order.length; i++) {
                putPlace(who, order[i], i);
            }
        }

        /** Only where there is room for one thing more. */
        void putCopy(int thing) {
            for (int who = 0; who < people; who++) {
                int place = placeOf(who, thing);
                int behind = place + groupSize(who, place);
                for (int other = 0; other < things; other++) {
                    if (placeOf(who, other) > place) {
                        putPlace(who, other, placeOf(who, other) + 1);
                    }
                }
                putPlace(who, things, behind);
            }
            things++;
        }

        /** Only the core is asked of such a hall: turns and names stay those of all. */
        void dropPerson(int gone) {
            allWeight -= weights[gone];
            people--;
            for (int who = gone; who < people; who++) {
                weights[who] = weights[who + 1];
                for (int thing = 0; thing < things; thing++) {
                    putPlace(who, thing, placeOf(who + 1, thing));
                }
            }
        }
    }

    /** The tape, and how it is read: into a draft of a hall, up to the first fault. */
    private static final class Reader {
        private static final int END = 0;
        private static final int WORD = 1;
        private static final int NUMBER = 2;
        private static final int SIGN = 3;
        private static final int NO_TOKEN = 4;

        private static final int MISPLACED = 1;
        private static final int TOO_MUCH = 2;
        private static final int UNKNOWN = 3;
        private static final int TWICE = 4;

        private static final int MOST_DIGITS = 3;

        private final byte[] tape = new byte[MOST_BYTES];
        private final Hall draft = new Hall();
        private int tapeLength = 0;
        private int length = 0;
        private int kind = END;
        private int from = 0;
        private int to = 0;
        private int value = 0;
        private int fault = 0;
        private int faultAt = NONE;

        boolean hasRoomFor(int bytes) {
            return tapeLength + bytes <= MOST_BYTES;
        }

        void put(int number) {
            for (int shift = 24; shift >= 0 && tapeLength < MOST_BYTES; shift -= 8) {
                tape[tapeLength] = (byte) (number >> shift);
                tapeLength++;
            }
        }

        /** The fault's kind, or 0: then the draft is the hall told. */
        int read(int many) {
            length = Math.min(many, tapeLength);
            tapeLength = 0;
            draft.reset();
            fault = 0;
            faultAt = NONE;
            to = 0;
            next();
            boolean well = readThings();
            for (int lines = 0; lines <= MOST_BYTES && well && kind != END; lines++) {
                well = readLine() && passSign();
            }
            return fault;
        }

        private boolean fail(int why) {
            fault = why;
            faultAt = from;
            return false;
        }

        private int byteAt(int i) {
            return i >= 0 && i < length && i < MOST_BYTES ? tape[i] & 255 : 0;
        }

        private static boolean isBlank(int sign) {
            return sign == 32 || sign == 10;
        }

        private static boolean isLetter(int sign) {
            return sign >= 'a' && sign <= 'z';
        }

        private static boolean isDigit(int sign) {
            return sign >= '0' && sign <= '9';
        }

        private void next() {
            from = to;
            while (from < length && isBlank(byteAt(from))) {
                from++;
            }
            to = from;
            if (from >= length) {
                kind = END;
            } else if (isLetter(byteAt(from))) {
                kind = WORD;
                passLetters();
            } else if (isDigit(byteAt(from))) {
                kind = NUMBER;
                passDigits();
            } else {
                kind = byteAt(from) == ';' ? SIGN : NO_TOKEN;
                to = from + 1;
            }
        }

        private void passLetters() {
            while (to < length && isLetter(byteAt(to))) {
                to++;
            }
        }

        /** A number of too many digits is refused before its value counts, so that value may wrap. */
        private void passDigits() {
            value = 0;
            while (to < length && isDigit(byteAt(to))) {
                value = value * 10 + byteAt(to) - '0';
                to++;
            }
        }

        private boolean isWord(String word) {
            if (kind != WORD || to - from != word.length()) {
                return false;
            }
            for (int i = 0; i < word.length(); i++) {
                if (byteAt(from + i) != word.charAt(i)) {
                    return false;
                }
            }
            return true;
        }

        private boolean passWord(String word) {
            if (!isWord(word)) {
                return fail(MISPLACED);
            }
            next();
            return true;
        }

        private boolean passSign() {
            if (kind != SIGN) {
                return fail(MISPLACED);
            }
            next();
            return true;
        }

        private boolean atNumber() {
            if (kind != NUMBER) {
                return fail(MISPLACED);
            }
            return to - from <= MOST_DIGITS || fail(TOO_MUCH);
        }

        private boolean atNumberWithin(int least, int most) {
            return atNumber() && (value >= least && value <= most || fail(TOO_MUCH));
        }

        private boolean readThings() {
            if (!passWord("things") || !atNumberWithin(2, MOST_THINGS)) {
                return false;
            }
            draft.things = value;
            next();
            return passSign();
        }

        private boolean readLine() {
            if (isWord("person")) {
                return readPerson();
            }
            if (isWord("law")) {
                next();
                return readLaw();
            }
            if (isWord("turns")) {
                next();
                return readTurns();
            }
            return fail(MISPLACED);
        }

        private boolean readPerson() {
            if (draft.people >= MOST_PEOPLE) {
                return fail(TOO_MUCH);
            }
            next();
            if (!passWord("weight") || !atNumberWithin(1, 99)) {
                return false;
            }
            int who = draft.people;
            draft.people++;
            draft.weights[who] = value;
            draft.allWeight += value;
            next();
            if (isWord("likes")) {
                draft.named |= 1 << who;
            }
            return readOrder(who);
        }

        private boolean readOrder(int who) {
            int taken = 0;
            int place = 0;
            boolean more = isWord("likes");
            for (int i = 0; i <= MOST_THINGS && more; i++) {
                next();
                if (!atNewThing(taken)) {
                    return false;
                }
                draft.putPlace(who, value, place);
                taken |= 1 << value;
                next();
                if (isWord("over")) {
                    place = Integer.bitCount(taken);
                }
                more = isWord("over") || isWord("and");
            }
            for (int thing = 0; thing < draft.things; thing++) {
                if ((taken >> thing & 1) == 0) {
                    draft.putPlace(who, thing, Integer.bitCount(taken));
                }
            }
            return true;
        }

        private boolean atNewThing(int taken) {
            if (!atNumber()) {
                return false;
            }
            if (value >= draft.things) {
                return fail(UNKNOWN);
            }
            return (taken >> value & 1) == 0 || fail(TWICE);
        }

        private boolean readLaw() {
            if (isWord("parts")) {
                draft.law = PARTS;
                next();
                return true;
            }
            if (isWord("steps")) {
                next();
                return readSteps();
            }
            if (isWord("told")) {
                next();
                return readTold();
            }
            return fail(MISPLACED);
        }

        private boolean readSteps() {
            if (!atNumberWithin(1, 999)) {
                return false;
            }
            draft.law = STEPS;
            draft.step = value;
            next();
            return true;
        }

        private boolean readTold() {
            draft.law = TOLD;
            draft.toldCount = 0;
            for (int i = 0; i <= MOST_TOLD && (i == 0 || kind == NUMBER); i++) {
                if (!atNumberWithin(0, 9)) {
                    return false;
                }
                if (draft.toldCount >= MOST_TOLD) {
                    return fail(TOO_MUCH);
                }
                draft.told[draft.toldCount] = value;
                draft.toldCount++;
                next();
            }
            return true;
        }

        private boolean readTurns() {
            draft.turnCount = 0;
            for (int i = 0; i <= MOST_TURNS && (i == 0 || kind == NUMBER); i++) {
                if (!atNumber()) {
                    return false;
                }
                if (draft.turnCount >= draft.things - 1) {
                    return fail(TOO_MUCH);
                }
                if (value >= draft.people) {
                    return fail(UNKNOWN);
                }
                draft.turns[draft.turnCount] = value;
                draft.turnCount++;
                next();
            }
            return true;
        }
    }

    /** Goes through all sets of people. */
    private static final class Sets {
        private final int[] mays = new int[1 << MOST_PEOPLE];
        private final int[] keeps = new int[1 << MOST_PEOPLE];

        int coreOf(Hall hall) {
            weigh(hall);
            return coreAsWeighed(hall);
        }

        /** Apart from the rest, as many halls with the same weights may come behind it. */
        void weigh(Hall hall) {
            int end = Math.min(1 << hall.people, mays.length);
            for (int set = 0; set < end; set++) {
                mays[set] = hall.mayStrike(set);
            }
        }

        int coreAsWeighed(Hall hall) {
            int bits = 0;
            for (int thing = 0; thing < hall.things; thing++) {
                if (strikerOf(hall, thing, true) == 0) {
                    bits |= 1 << thing;
                }
            }
            return bits;
        }

        /** THE STRIKER, or any set that strikes where it only counts that there is one; 0 if none does. */
        int strikerOf(Hall hall, int thing, boolean anyWillDo) {
            int best = 0;
            keeps[0] = hall.allThings();
            int sets = 1;
            for (int who = 0; who < hall.people && sets < keeps.length; who++) {
                int dearer = hall.dearerThan(who, thing);
                for (int others = 0; others < sets; others++) {
                    int set = sets + others;
                    keeps[set] = keeps[others] & dearer;
                    if (Integer.bitCount(keeps[set]) >= hall.things - mays[set]) {
                        best = best == 0 ? set : ahead(best, set);
                        if (anyWillDo) {
                            return best;
                        }
                    }
                }
                sets += sets;
            }
            return best;
        }

        private static int ahead(int one, int other) {
            int fewer = Integer.bitCount(one) - Integer.bitCount(other);
            if (fewer != 0) {
                return fewer < 0 ? one : other;
            }
            int unlike = one ^ other;
            int lowest = unlike & -unlike;
            return (one & lowest) != 0 ? one : other;
        }
    }

    /** Turns of people who see to the end. What is left tells how many turns are gone, so it alone is a state. */
    private static final class Sight {
        private final int[] ends = new int[1 << MOST_THINGS];

        int endOf(Hall hall) {
            lookBack(hall);
            return ends[hall.allThings()];
        }

        int openingStrike(Hall hall) {
            if (hall.turnCount == 0) {
                return NONE;
            }
            lookBack(hall);
            return bestStrike(hall, hall.turns[0], hall.allThings());
        }

        /** Smaller sets have smaller numbers than those they are cut from, so each end is known when it is asked for. */
        private void lookBack(Hall hall) {
            int all = Math.min(hall.allThings(), ends.length - 1);
            for (int remaining = 1; remaining <= all; remaining++) {
                int gone = hall.things - Integer.bitCount(remaining);
                if (gone >= hall.turnCount) {
                    ends[remaining] = remaining;
                } else {
                    int thing = bestStrike(hall, hall.turns[gone], remaining);
                    ends[remaining] = ends[remaining & ~(1 << thing)];
                }
            }
        }

        private int bestStrike(Hall hall, int who, int remaining) {
            int best = 0;
            int leastPain = MANY;
            for (int thing = 0; thing < hall.things; thing++) {
                if ((remaining >> thing & 1) == 1) {
                    int end = ends[remaining & ~(1 << thing)];
                    int pain = hall.greatestPlace(who, end) * 1000 + hall.sumOfPlaces(who, end);
                    if (pain < leastPain) {
                        leastPain = pain;
                        best = thing;
                    }
                }
            }
            return best;
        }
    }

    /** The turns in all rows that they can be put in. */
    private static final class TurnRows {
        private static final int WORDS = (1 << MOST_THINGS) / 64;

        // A bit for each pair of which turns are gone and what is left: many rows meet in the same pair.
        private final long[] seen = new long[(1 << MOST_TURNS) * WORDS];
        private boolean known = false;
        private int behindSome = 0;
        private int behindAll = 0;

        void forget() {
            known = false;
        }

        int leftBehindSome(Hall hall) {
            learn(hall);
            return behindSome;
        }

        int leftBehindAll(Hall hall) {
            learn(hall);
            return behindAll;
        }

        static int rowsOf(Hall hall) {
            int rows = factorial(hall.turnCount);
            for (int who = 0; who < hall.people; who++) {
                int own = 0;
                for (int i = 0; i < hall.turnCount; i++) {
                    if (hall.turns[i] == who) {
                        own++;
                    }
                }
                rows /= factorial(own);
            }
            return rows;
        }

        private void learn(Hall hall) {
            if (known) {
                return;
            }
            known = true;
            Arrays.fill(seen, 0L);
            mark(0, hall.allThings());
            behindSome = 0;
            behindAll = hall.allThings();
            int masks = Math.min(1 << hall.turnCount, 1 << MOST_TURNS);
            for (int gone = 0; gone < masks; gone++) {
                for (int word = 0; word < WORDS; word++) {
                    if (seen[gone * WORDS + word] != 0) {
                        goOnFrom(hall, gone, word);
                    }
                }
            }
        }

        /** A mask is less than all that have one turn more, so all ways into it are gone through by now. */
        private void goOnFrom(Hall hall, int gone, int word) {
            long bits = seen[gone * WORDS + word];
            for (int bit = 0; bit < 64; bit++) {
                if ((bits >> bit & 1) == 1) {
                    takeEachTurn(hall, gone, word * 64 + bit);
                }
            }
        }

        private void takeEachTurn(Hall hall, int gone, int remaining) {
            if (gone == (1 << hall.turnCount) - 1) {
                behindSome |= remaining;
                behindAll &= remaining;
                return;
            }
            int tried = 0;
            for (int i = 0; i < hall.turnCount; i++) {
                int who = hall.turns[i];
                if ((gone >> i & 1) == 0 && (tried >> who & 1) == 0) {
                    tried |= 1 << who;
                    mark(gone | 1 << i, hall.strikePlainly(who, remaining));
                }
            }
        }

        private void mark(int gone, int remaining) {
            int at = gone * WORDS + (remaining >> 6);
            if (at >= 0 && at < seen.length) {
                seen[at] |= 1L << (remaining & 63);
            }
        }
    }

    /** All orders that groups might stand for. A way's number holds a number of an order for each of the people. */
    private static final class OpenTies {
        private final int[] cores = new int[MOST_WAYS];
        private final int[] orders = new int[MOST_PEOPLE];
        private final int[] strides = new int[MOST_PEOPLE];
        private final int[] ranks = new int[MOST_THINGS];
        private boolean known = false;
        private int ways = 0;
        private int inAll = 0;
        private int inSome = 0;

        void forget() {
            known = false;
        }

        boolean spent() {
            return ways > MOST_WAYS;
        }

        /** The spare hall is what each way is written into. */
        void learn(Hall hall, Hall spare, Sets sets) {
            if (known) {
                return;
            }
            known = true;
            countWays(hall);
            if (spent()) {
                return;
            }
            spare.takeFrom(hall);
            sets.weigh(hall);
            inAll = hall.allThings();
            inSome = 0;
            for (int way = 0; way < ways && way < MOST_WAYS; way++) {
                for (int who = 0; who < hall.people; who++) {
                    putOrder(hall, spare, who, orderIn(way, who));
                }
                cores[way] = sets.coreAsWeighed(spare);
                inAll &= cores[way];
                inSome |= cores[way];
            }
        }

        private void countWays(Hall hall) {
            ways = 1;
            for (int who = 0; who < hall.people; who++) {
                strides[who] = ways;
                orders[who] = ordersOf(hall, who);
                ways = Math.min(ways * orders[who], MOST_WAYS + 1);
            }
        }

        /** More than enough are all alike, and cut so that products stay small. */
        private static int ordersOf(Hall hall, int who) {
            int product = 1;
            for (int place = 0; place < hall.things; place++) {
                product = Math.min(product * factorial(hall.groupSize(who, place)), MOST_WAYS + 1);
            }
            return product;
        }

        private int orderIn(int way, int who) {
            return way / Math.max(1, strides[who]) % Math.max(1, orders[who]);
        }

        private void putOrder(Hall hall, Hall into, int who, int order) {
            int rest = order;
            for (int place = 0; place < hall.things; place++) {
                int size = hall.groupSize(who, place);
                if (size > 1) {
                    int choices = factorial(size);
                    nthOrder(rest % choices, size, ranks);
                    rest /= choices;
                    putRanks(hall, into, who, place);
                }
            }
        }

        private void putRanks(Hall hall, Hall into, int who, int place) {
            int member = 0;
            for (int thing = 0; thing < hall.things && member < ranks.length; thing++) {
                if (hall.placeOf(who, thing) == place) {
                    into.putPlace(who, thing, place + ranks[member]);
                    member++;
                }
            }
        }

        int bestToAsk(int people) {
            int best = NONE;
            int fewest = MANY;
            for (int who = 0; who < people; who++) {
                if (orders[who] > 1) {
                    int open = mostOpenOnceTold(who);
                    if (open < fewest) {
                        fewest = open;
                        best = who;
                    }
                }
            }
            return best;
        }

        private int mostOpenOnceTold(int who) {
            int most = 0;
            for (int order = 0; order < orders[who]; order++) {
                most = Math.max(most, openOnceTold(who, order));
            }
            return most;
        }

        private int openOnceTold(int who, int order) {
            int all = -1;
            int some = 0;
            for (int way = 0; way < ways && way < MOST_WAYS; way++) {
                if (orderIn(way, who) == order) {
                    all &= cores[way];
                    some |= cores[way];
                }
            }
            return Integer.bitCount(some & ~all);
        }
    }

    /** Rows told, and holders. */
    private static final class Board {
        private final int[] many = new int[MOST_ROWS];
        private final long[] strikeRows = new long[MOST_ROWS];
        private int rowCount = 0;
        private final int[] kinds = new int[HOLDERS];
        private final int[] numbers = new int[HOLDERS];

        Board() {
            Arrays.fill(kinds, NOTHING);
        }

        void empty() {
            rowCount = 0;
            Arrays.fill(kinds, NOTHING);
        }

        static int strikeIn(long strikeRow, int i) {
            return (int) (strikeRow >> (4 * i)) & 15;
        }

        int addRow(int strikeCount, long strikeRow) {
            if (rowCount >= MOST_ROWS) {
                return NONE;
            }
            many[rowCount] = strikeCount;
            strikeRows[rowCount] = strikeRow;
            rowCount++;
            return rowCount - 1;
        }

        int struckBy(int row) {
            int struck = 0;
            for (int i = 0; i < many[row]; i++) {
                struck |= 1 << strikeIn(strikeRows[row], i);
            }
            return struck;
        }

        int firstUnlawful(int row) {
            int struck = 0;
            for (int i = 0; i < many[row]; i++) {
                int thing = strikeIn(strikeRows[row], i);
                if ((struck >> thing & 1) == 1) {
                    return i;
                }
                struck |= 1 << thing;
            }
            return NONE;
        }

        /** A thing struck already is not what one strikes plainly, so an unlawful strike is found here, too. */
        int firstNotPlain(int row, Hall hall) {
            int remaining = hall.allThings();
            for (int i = 0; i < many[row] && i < hall.turnCount; i++) {
                int thing = strikeIn(strikeRows[row], i);
                if (thing != hall.plainStrike(hall.turns[i], remaining)) {
                    return i;
                }
                remaining &= ~(1 << thing);
            }
            return NONE;
        }

        int whyNot(int holder, int kind) {
            if (kinds[holder] == NOTHING) {
                return 1;
            }
            return kinds[holder] == kind ? 0 : 2;
        }
    }
}
