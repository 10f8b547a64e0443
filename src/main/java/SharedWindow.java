/**
 * A terrace of houses with one window between them. ../shared/DOC.md tells, promise by promise, what
 * each call answers; the words in capitals there are the words used here.
 */
public final class SharedWindow {
    public static final int NONE = -1;

    private static final int NOBODY = -1;
    /** What is answered for nobody's, for never and where there is none at all. */
    private static final int NONE_AT_ALL = -2;
    /** What is answered where the tape names what is not there. */
    private static final int NO_SUCH = -3;
    private static final int HOUSES = 16;
    private static final int THINGS = 16;
    private static final int TURNS = 12;
    private static final int ALL_TURNS = 4095;
    private static final int WAYS_ROUND = 12;
    private static final int MOST_DAYS_AT_ONCE = 100;
    private static final int MOST_LAW_BYTES = 240;
    private static final int MOST_TERRACE_BYTES = 200;
    private static final int MOST_ROTA_BYTES = 60;

    private static final int FAULT_SIGN = 1;
    private static final int FAULT_DIGITS = 2;
    private static final int FAULT_NUMBER = 3;
    private static final int FAULT_LINES = 4;
    private static final int FAULT_DEPTH = 5;
    private static final int FAULT_MUCH = 6;
    private static final int FAULT_STRANGER = 7;

    private final Tape tape;
    private final TerraceReader terraceReader;
    private final RotaReader rotaReader;
    private final LawReader lawReader;
    private final Rota plan;
    private final Wishes wishes;
    private final Games games;
    private final State now;
    private final State trial;
    private final State kept;
    // A text is read into the spare one, so that the one before can stay if the text has a fault.
    private Terrace street;
    private Terrace spareStreet;
    private Law rules;
    private Law spareRules;
    private boolean everKept;

    public SharedWindow() {
        tape = new Tape();
        Cursor cursor = new Cursor(tape);
        terraceReader = new TerraceReader(cursor);
        rotaReader = new RotaReader(cursor);
        lawReader = new LawReader(cursor);
        plan = new Rota();
        wishes = new Wishes();
        games = new Games(tape);
        now = new State();
        trial = new State();
        kept = new State();
        street = new Terrace();
        spareStreet = new Terrace();
        rules = new Law();
        spareRules = new Law();
        everKept = false;
    }

    // ---- what is told ----

    public boolean turn(int t, int house) {
        if (!isTurn(t) || house != NOBODY && !street.hasHouse(house)) {
            return false;
        }
        plan.give(t, house);
        return true;
    }

    public int feed(int a, int b, int c, int d, int e) {
        if (!tape.hasRoom()) {
            return NONE;
        }
        tape.addInt(a);
        tape.addInt(b);
        tape.addInt(c);
        tape.addInt(d);
        tape.addInt(e);
        return tape.size();
    }

    public int law(int n) {
        if (n < 1 || n > MOST_LAW_BYTES || !tape.holds(n)) {
            return NONE;
        }
        int answer = lawReader.readLaw(n, spareRules);
        tape.clear();
        if (answer >= 0) {
            Law before = rules;
            rules = spareRules;
            spareRules = before;
        }
        return answer;
    }

    public int terrace(int n) {
        if (n < 1 || n > MOST_TERRACE_BYTES || !tape.holds(n)) {
            return NONE;
        }
        int answer = terraceReader.readTerrace(n, spareStreet);
        tape.clear();
        if (answer >= 0) {
            Terrace before = street;
            street = spareStreet;
            spareStreet = before;
            plan.dropStrangers(street);
            now.startAnew();
        }
        return answer;
    }

    public int rota(int n) {
        if (n < 1 || n > MOST_ROTA_BYTES || !tape.holds(n)) {
            return NONE;
        }
        int answer = rotaReader.readRota(n, street, plan);
        tape.clear();
        return answer;
    }

    public boolean seed(int x) {
        if (x < 0 || x > State.MOST_X) {
            return false;
        }
        now.x = x;
        return true;
    }

    // ---- days ----

    public int days(int n) {
        if (n < 1 || n > MOST_DAYS_AT_ONCE) {
            return NONE;
        }
        int before = now.cracks;
        now.liveDays(n, plan, street, rules);
        return now.cracks - before;
    }

    public int tried(int n, int what) {
        if (n < 1 || n > MOST_DAYS_AT_ONCE || !canBeTried(what)) {
            return NONE;
        }
        trial.copyFrom(now);
        trial.liveDays(n, plan, street, rules);
        switch (what) {
            case 0:
                return trial.cracks - now.cracks;
            case 1:
                return orNoneAtAll(trial.window);
            case 2:
                return trial.brings;
            case 3:
                return trial.joyOfAll();
            default:
                return trial.joyOf(what - 10);
        }
    }

    private boolean canBeTried(int what) {
        return what >= 0 && what <= 3 || what >= 10 && street.hasHouse(what - 10);
    }

    public int keep() {
        kept.copyFrom(now);
        everKept = true;
        return now.day;
    }

    public boolean undo() {
        if (!everKept) {
            return false;
        }
        now.copyFrom(kept);
        now.dropStrangers(street);
        return true;
    }

    public int check(int n) {
        if (n < 0 || n > HOUSES || !tape.holds(n)) {
            return NONE_AT_ALL;
        }
        int wrong = NONE;
        for (int house = n - 1; house >= 0; house--) {
            int due = street.hasHouse(house) ? now.joyOf(house) % 256 : 255;
            if (tape.byteAt(house) != due) {
                wrong = house;
            }
        }
        tape.clear();
        return wrong;
    }

    public int count(int what) {
        switch (what) {
            case 0:
                return now.day;
            case 1:
                return street.houses;
            case 2:
                return street.things;
            case 3:
                return orNoneAtAll(now.window);
            case 4:
                return now.brings;
            case 5:
                return now.cracks;
            case 6:
                return rules.ruleCount;
            case 7:
                return tape.size();
            case 8:
                return now.x;
            case 9:
                return now.joyOfAll();
            case 10:
                return Integer.bitCount(now.brings);
            case 11:
                return plan.takenTurns();
            default:
                return NONE;
        }
    }

    // ---- who sees what when ----

    public int sees(int house, int turn) {
        return street.hasHouse(house) && isTurn(turn) ? street.view(house, turn) : NONE;
    }

    public int houseIs(int house, int what) {
        if (!street.hasHouse(house)) {
            return NONE;
        }
        switch (what) {
            case 0:
                return street.facing[house];
            case 1:
                return now.joyOf(house);
            case 2:
                return Integer.bitCount(plan.turnsOf(house));
            case 3:
                return longestRun(ALL_TURNS & ~plan.turnsOf(house));
            case 4:
                return street.wholeView(house);
            default:
                return NONE;
        }
    }

    public int rotaIs(int what) {
        if (isTurn(what)) {
            return orNoneAtAll(plan.holder(what));
        }
        switch (what) {
            case 100:
                return plan.way();
            case 101:
                return plan.way() + plan.wayBack();
            case 102:
                return plan.thingsSeen(street);
            default:
                return NONE;
        }
    }

    public int next(int house, int thing, int turn) {
        if (!street.hasHouse(house) || !street.hasThing(thing) || !isTurn(turn)) {
            return NONE;
        }
        return plan.turnsTill(street, house, thing, turn);
    }

    public int light(int house, int what) {
        if (!street.hasHouse(house) || what < 0 || what > 1) {
            return NONE;
        }
        int lit = street.litTurns(house);
        return what == 0 ? Integer.bitCount(lit) : longestRun(lit);
    }

    public int seers(int thing) {
        return street.hasThing(thing) ? street.watchers(thing) : NONE;
    }

    public int clearest(int what) {
        if (what < 0 || what > 1) {
            return NONE;
        }
        int turn = street.clearestTurn();
        return what == 0 ? turn : street.twosIn(turn);
    }

    public int whoHad(int turn, int some) {
        if (!isTurn(turn) || some < 0 || some > 65535) {
            return NONE;
        }
        return street.housesThatSeeJust(some, turn);
    }

    public int second(int what) {
        if (what < 0 || what > 1) {
            return NONE;
        }
        int windows = street.fewestWatchers();
        return what == 0 ? Integer.bitCount(windows) : windows;
    }

    // ---- the rota ----

    public int ifSwapped(int one, int other) {
        return isTurn(one) && isTurn(other) ? plan.wayIfSwapped(one, other) : NONE;
    }

    public int spread() {
        return plan.spreadAmong(street);
    }

    public int readers(int turn, int n) {
        return isTurn(turn) && n >= 0 && n <= TURNS ? plan.readBy(street, turn, n) : NONE;
    }

    public int bestBreath(int house, int what) {
        if (!street.hasHouse(house) || what < 0 || what > 1) {
            return NONE;
        }
        int turn = plan.bestTurnToWrite(street, house);
        if (what == 0) {
            return turn;
        }
        return isTurn(turn) ? plan.othersWhoRead(street, turn, house) : 0;
    }

    public int shortest(int n, int what) {
        if (n < 1 || n > Wishes.MOST || what < 0 || what > 1 || !tape.holds(2 * n)) {
            return NONE;
        }
        boolean allTold = wishes.take(tape, n, street);
        tape.clear();
        return allTold ? wishes.answer(street, what) : NO_SUCH;
    }

    public int crack(int n, int what) {
        if (n < 1 || n > TURNS || what < 0 || what > 1 || !tape.holds(2 * n)) {
            return NONE;
        }
        int possible = games.possibleCracks(n);
        tape.clear();
        return what == 0 || possible < 0 ? possible : plan.holdersOf(possible);
    }

    // ---- joys, swaps and sales ----

    public int halves(int n) {
        if (n < 2 || n > Games.MOST_HOURS || !tape.holds(n)) {
            return NONE;
        }
        int answer = games.firstShare(n);
        tape.clear();
        return answer;
    }

    public int swaps(int n, int what) {
        if (n < 2 || n > Games.MOST_PEOPLE || what < 0 || what > 1 || !tape.holds(n * n)) {
            return NONE;
        }
        int answer = what == 0 ? games.willingTwos(n) : games.mostSwapsAtOnce(n);
        tape.clear();
        return answer;
    }

    public int sale(int n, int what) {
        if (n < 2 || n > Games.MOST_PEOPLE || !tape.holds(n * n)) {
            return NONE;
        }
        if (what != 100 && (what < 0 || what >= n)) {
            return NONE;
        }
        int worth = games.sell(n);
        int answer = what == 100 ? worth : games.buyerOf(what, n);
        tape.clear();
        return answer;
    }

    public long rotas(int k) {
        return games.rotasOf(k);
    }

    public int panes(int n, int wide) {
        if (n < 1 || n > Games.MOST_PANES || wide < 1 || wide > Games.MOST_PANES || !tape.holds(n)) {
            return NONE;
        }
        int answer = games.greatestPane(n, wide);
        tape.clear();
        return answer;
    }

    public int keepIt(int n, int k) {
        if (n < 1 || n > Games.MOST_OFFERS || k < -1 || k >= n || !tape.holds(n)) {
            return NONE;
        }
        int answer = k < 0 ? games.bestToLetGo(n) : games.hadByLettingGo(k, n);
        tape.clear();
        return answer;
    }

    // ---- what several classes need ----

    private static boolean isTurn(int turn) {
        return turn >= 0 && turn < TURNS;
    }

    private static int orNoneAtAll(int house) {
        return house == NOBODY ? NONE_AT_ALL : house;
    }

    /** The most TURNS of a set one behind the other, round by 11 to 0. */
    private static int longestRun(int turns) {
        if (turns == ALL_TURNS) {
            return TURNS;
        }
        int run = 0;
        int longest = 0;
        for (int step = 0; step < 2 * TURNS; step++) {
            run = (turns >> (step % TURNS) & 1) == 1 ? run + 1 : 0;
            longest = Math.max(longest, run);
        }
        return longest;
    }

    /** The bytes that were fed and not yet used. */
    private static final class Tape {
        private static final int MOST = 260;
        private static final int AT_ONCE = 20;
        private final int[] bytes = new int[MOST];
        private int size = 0;

        private int size() {
            return size;
        }

        private boolean holds(int n) {
            return n <= size;
        }

        private boolean hasRoom() {
            return size + AT_ONCE <= MOST;
        }

        private void addInt(int four) {
            for (int shift = 24; shift >= 0; shift -= 8) {
                if (size < MOST) {
                    bytes[size] = four >> shift & 255;
                    size++;
                }
            }
        }

        private int byteAt(int place) {
            return place >= 0 && place < size ? bytes[place] : 0;
        }

        private void clear() {
            size = 0;
        }
    }

    /** Walks over a text on the tape, and keeps the first FAULT that is met. */
    private static final class Cursor {
        private static final int END = -1;
        private final Tape tape;
        private int end = 0;
        private int place = 0;
        private int sign = END;
        private int fault = 0;

        private Cursor(Tape tape) {
            this.tape = tape;
        }

        private void start(int n) {
            end = n;
            place = 0;
            sign = tape.byteAt(0);
            fault = 0;
        }

        private boolean fine() {
            return fault == 0;
        }

        private boolean isDigit() {
            return sign >= '0' && sign <= '9';
        }

        private void step() {
            place++;
            sign = place < end ? tape.byteAt(place) : END;
        }

        private void fail(int number, int where) {
            if (fault == 0) {
                fault = -1000 * number - where;
            }
        }

        private void failHere(int number) {
            fail(number, place);
        }

        private void expect(int wanted) {
            if (sign == wanted) {
                step();
            } else {
                failHere(FAULT_SIGN);
            }
        }

        /** Is there another LINE or RULE behind this one? */
        private boolean passesSemicolon() {
            if (!fine() || sign == END) {
                return false;
            }
            expect(';');
            return fine();
        }

        /** A number of at most so many digits. */
        private int readNumber(int mostDigits) {
            if (!isDigit()) {
                failHere(FAULT_SIGN);
            }
            int value = 0;
            for (int digits = 0; digits <= mostDigits && fine() && isDigit(); digits++) {
                if (digits == mostDigits) {
                    failHere(FAULT_DIGITS);
                } else {
                    value = 10 * value + sign - '0';
                    step();
                }
            }
            return value;
        }
    }

    /** The HOUSES and THINGS that are told, and who SEES what in which TURN. */
    private static final class Terrace {
        private final int[] facing = new int[HOUSES];
        private final int[] side = new int[THINGS];
        private final int[] from = new int[THINGS];
        private final int[] until = new int[THINGS];
        private final int[] views = new int[HOUSES * TURNS];
        private final int[] wholeViews = new int[HOUSES];
        private final int[] candidates = new int[HOUSES];
        private int houses = 0;
        private int things = 0;

        private void clear() {
            houses = 0;
            things = 0;
        }

        private boolean hasHouse(int house) {
            return house >= 0 && house < HOUSES && (houses >> house & 1) == 1;
        }

        private boolean hasThing(int thing) {
            return thing >= 0 && thing < THINGS && (things >> thing & 1) == 1;
        }

        private void addHouse(int house, int way) {
            if (house >= 0 && house < HOUSES) {
                houses |= 1 << house;
                facing[house] = way;
            }
        }

        private void addThing(int thing, int where, int first, int last) {
            if (thing >= 0 && thing < THINGS) {
                things |= 1 << thing;
                side[thing] = where;
                from[thing] = first;
                until[thing] = last;
            }
        }

        /** Reckons all views at once, as every DAY asks for them again and again. */
        private void lookAround() {
            for (int house = 0; house < HOUSES; house++) {
                wholeViews[house] = hasHouse(house) ? thingsBefore(house) : 0;
            }
            for (int turn = 0; turn < TURNS; turn++) {
                int there = thingsThere(turn);
                for (int house = 0; house < HOUSES; house++) {
                    views[house * TURNS + turn] = wholeViews[house] & there;
                }
            }
        }

        /** Each THING is there in one TURN at least, so a HOUSE sees all that is before it. */
        private int thingsBefore(int house) {
            int found = 0;
            for (int thing = 0; thing < THINGS; thing++) {
                if (hasThing(thing) && isBefore(house, thing)) {
                    found |= 1 << thing;
                }
            }
            return found;
        }

        private int thingsThere(int turn) {
            int found = 0;
            for (int thing = 0; thing < THINGS; thing++) {
                if (hasThing(thing) && isThere(thing, turn)) {
                    found |= 1 << thing;
                }
            }
            return found;
        }

        private boolean isBefore(int house, int thing) {
            int apart = Math.abs(facing[house] - side[thing]);
            return apart <= 1 || apart == WAYS_ROUND - 1;
        }

        private boolean isThere(int thing, int turn) {
            boolean begun = from[thing] <= turn;
            boolean notOver = turn <= until[thing];
            return from[thing] <= until[thing] ? begun && notOver : begun || notOver;
        }

        private int view(int house, int turn) {
            return hasHouse(house) && isTurn(turn) ? views[house * TURNS + turn] : 0;
        }

        private int wholeView(int house) {
            return hasHouse(house) ? wholeViews[house] : 0;
        }

        private int litTurns(int house) {
            int lit = 0;
            for (int turn = 0; turn < TURNS; turn++) {
                if (view(house, turn) != 0) {
                    lit |= 1 << turn;
                }
            }
            return lit;
        }

        private int watchers(int thing) {
            int seeing = 0;
            for (int house = 0; house < HOUSES; house++) {
                if ((wholeView(house) >> thing & 1) == 1) {
                    seeing |= 1 << house;
                }
            }
            return seeing;
        }

        private int twosIn(int turn) {
            int twos = 0;
            for (int house = 0; house < HOUSES; house++) {
                twos += Integer.bitCount(view(house, turn));
            }
            return twos;
        }

        private int clearestTurn() {
            int best = 0;
            int most = 0;
            for (int turn = 0; turn < TURNS; turn++) {
                int twos = twosIn(turn);
                if (twos > most) {
                    most = twos;
                    best = turn;
                }
            }
            return best;
        }

        private int housesThatSeeJust(int some, int turn) {
            int found = 0;
            for (int house = 0; house < HOUSES; house++) {
                if (hasHouse(house) && view(house, turn) == some) {
                    found |= 1 << house;
                }
            }
            return found;
        }

        /** SECOND WINDOWS: the least bits of the fewest HOUSES that see all that can be seen. */
        private int fewestWatchers() {
            int number = gatherCandidates();
            int all = 0;
            for (int i = 0; i < number; i++) {
                all |= wholeView(candidates[i]);
            }
            int found = NONE;
            for (int windows = 0; windows <= number && found == NONE; windows++) {
                found = leastWatchers(number, windows, all);
            }
            return Math.max(found, 0);
        }

        /** Of HOUSES with the same view only the lowest can be among the least bits. */
        private int gatherCandidates() {
            int number = 0;
            for (int house = 0; house < HOUSES; house++) {
                boolean another = wholeView(house) != 0;
                for (int i = 0; i < number && another; i++) {
                    another = wholeView(candidates[i]) != wholeView(house);
                }
                if (another) {
                    candidates[number] = house;
                    number++;
                }
            }
            return number;
        }

        /** Tries to do without the highest candidate first, so what is found first is the least. */
        private int leastWatchers(int number, int windows, int missing) {
            if (missing == 0) {
                return 0;
            }
            if (number <= 0 || number > HOUSES || windows <= 0) {
                return NONE;
            }
            int without = leastWatchers(number - 1, windows, missing);
            if (without != NONE) {
                return without;
            }
            int house = candidates[number - 1];
            int others = leastWatchers(number - 1, windows - 1, missing & ~wholeView(house));
            return others == NONE ? NONE : others | 1 << house;
        }
    }

    /** Reads a TERRACE. */
    private static final class TerraceReader {
        private static final int MOST_LINES = 32;
        private static final int MOST_DIGITS = 2;
        private static final int GREATEST = 11;
        private final Cursor cursor;

        private TerraceReader(Cursor cursor) {
            this.cursor = cursor;
        }

        private int readTerrace(int n, Terrace draft) {
            cursor.start(n);
            draft.clear();
            int lines = 0;
            boolean more = true;
            while (more && lines <= MOST_LINES) {
                readLine(lines, draft);
                lines++;
                more = cursor.passesSemicolon();
            }
            if (!cursor.fine()) {
                return cursor.fault;
            }
            draft.lookAround();
            return lines;
        }

        private void readLine(int linesAhead, Terrace draft) {
            int sign = cursor.sign;
            boolean house = sign >= 'a' && sign <= 'p';
            boolean thing = sign >= 'A' && sign <= 'P';
            if (!house && !thing) {
                cursor.failHere(FAULT_SIGN);
            } else if (linesAhead >= MOST_LINES) {
                cursor.failHere(FAULT_LINES);
            } else if (house ? draft.hasHouse(sign - 'a') : draft.hasThing(sign - 'A')) {
                cursor.failHere(FAULT_MUCH);
            } else {
                cursor.step();
                if (house) {
                    readHouse(sign - 'a', draft);
                } else {
                    readThing(sign - 'A', draft);
                }
            }
        }

        private void readHouse(int house, Terrace draft) {
            int facing = readWay();
            if (cursor.fine()) {
                draft.addHouse(house, facing);
            }
        }

        private void readThing(int thing, Terrace draft) {
            int side = readWay();
            cursor.expect('@');
            int from = readWay();
            cursor.expect('-');
            int until = readWay();
            if (cursor.fine()) {
                draft.addThing(thing, side, from, until);
            }
        }

        private int readWay() {
            int first = cursor.place;
            int value = cursor.readNumber(MOST_DIGITS);
            if (value > GREATEST) {
                cursor.fail(FAULT_NUMBER, first);
            }
            return value;
        }
    }

    /** THE ROTA: whose each TURN is. */
    private static final class Rota {
        private final int[] holders = new int[TURNS];

        private Rota() {
            for (int turn = 0; turn < TURNS; turn++) {
                holders[turn] = NOBODY;
            }
        }

        private int holder(int turn) {
            return isTurn(turn) ? holders[turn] : NOBODY;
        }

        private void give(int turn, int house) {
            if (isTurn(turn)) {
                holders[turn] = house;
            }
        }

        private void dropStrangers(Terrace street) {
            for (int turn = 0; turn < TURNS; turn++) {
                if (!street.hasHouse(holders[turn])) {
                    holders[turn] = NOBODY;
                }
            }
        }

        private int takenTurns() {
            int taken = 0;
            for (int turn = 0; turn < TURNS; turn++) {
                if (holders[turn] != NOBODY) {
                    taken++;
                }
            }
            return taken;
        }

        private int turnsOf(int house) {
            int turns = 0;
            for (int turn = 0; turn < TURNS; turn++) {
                if (holders[turn] == house) {
                    turns |= 1 << turn;
                }
            }
            return turns;
        }

        private int holdersOf(int turns) {
            int found = 0;
            for (int turn = 0; turn < TURNS; turn++) {
                if ((turns >> turn & 1) == 1 && holders[turn] != NOBODY) {
                    found |= 1 << holders[turn];
                }
            }
            return found;
        }

        private int way() {
            int carried = 0;
            int last = NOBODY;
            for (int turn = 0; turn < TURNS; turn++) {
                int house = holders[turn];
                if (house != NOBODY) {
                    carried += last == NOBODY ? 0 : Math.abs(house - last);
                    last = house;
                }
            }
            return carried;
        }

        private int wayBack() {
            int first = NOBODY;
            int last = NOBODY;
            for (int turn = 0; turn < TURNS; turn++) {
                if (holders[turn] != NOBODY) {
                    first = first == NOBODY ? holders[turn] : first;
                    last = holders[turn];
                }
            }
            return Math.abs(last - first);
        }

        private int wayIfSwapped(int one, int other) {
            exchange(one, other);
            int swapped = way();
            exchange(one, other);
            return swapped;
        }

        private void exchange(int one, int other) {
            int house = holder(one);
            give(one, holder(other));
            give(other, house);
        }

        private int spreadAmong(Terrace street) {
            int most = 0;
            int fewest = TURNS;
            for (int house = 0; house < HOUSES; house++) {
                if (street.hasHouse(house)) {
                    int turns = Integer.bitCount(turnsOf(house));
                    most = Math.max(most, turns);
                    fewest = Math.min(fewest, turns);
                }
            }
            return Math.max(most - fewest, 0);
        }

        private int thingsSeen(Terrace street) {
            int seen = 0;
            for (int turn = 0; turn < TURNS; turn++) {
                seen |= street.view(holders[turn], turn);
            }
            return seen;
        }

        private int turnsTill(Terrace street, int house, int thing, int start) {
            for (int behind = 0; behind < TURNS; behind++) {
                int turn = (start + behind) % TURNS;
                if (holder(turn) == house && (street.view(house, turn) >> thing & 1) == 1) {
                    return behind;
                }
            }
            return NONE_AT_ALL;
        }

        private int readBy(Terrace street, int start, int n) {
            int found = 0;
            for (int behind = 1; behind <= n; behind++) {
                int turn = (start + behind) % TURNS;
                int house = holder(turn);
                if (house != NOBODY) {
                    found |= 1 << house;
                    if (street.view(house, turn) == 0) {
                        return found;
                    }
                }
            }
            return found;
        }

        private int othersWhoRead(Terrace street, int turn, int house) {
            return Integer.bitCount(readBy(street, turn, TURNS) & ~(1 << house));
        }

        private int bestTurnToWrite(Terrace street, int house) {
            int best = NONE_AT_ALL;
            int most = -1;
            for (int turn = 0; turn < TURNS; turn++) {
                int reading = holders[turn] == house ? othersWhoRead(street, turn, house) : -1;
                if (reading > most) {
                    most = reading;
                    best = turn;
                }
            }
            return best;
        }
    }

    /** Reads a ROTA. */
    private static final class RotaReader {
        private static final int MOST_OPEN = 2;
        private final Cursor cursor;
        private final int[] draft = new int[TURNS];
        private int length = 0;
        private int strangerPlace = NONE;

        private RotaReader(Cursor cursor) {
            this.cursor = cursor;
        }

        private int readRota(int n, Terrace street, Rota into) {
            cursor.start(n);
            length = 0;
            strangerPlace = NONE;
            readTurns(street, 0);
            if (cursor.fine() && cursor.sign != Cursor.END) {
                cursor.failHere(FAULT_SIGN);
            }
            if (strangerPlace != NONE) {
                cursor.fail(FAULT_STRANGER, strangerPlace);
            }
            if (!cursor.fine()) {
                return cursor.fault;
            }
            for (int turn = 0; turn < TURNS; turn++) {
                into.give(turn, turn < length ? draft[turn] : NOBODY);
            }
            return length;
        }

        private void readTurns(Terrace street, int open) {
            boolean more = true;
            for (int i = 0; i < MOST_ROTA_BYTES && more; i++) {
                readOne(street, open);
                more = cursor.fine() && cursor.sign != Cursor.END && cursor.sign != ')';
            }
        }

        private void readOne(Terrace street, int open) {
            int first = cursor.place;
            int times = 1;
            if (cursor.sign >= '2' && cursor.sign <= '9') {
                times = cursor.sign - '0';
                cursor.step();
            }
            int start = length;
            if (cursor.sign == '(') {
                readRound(street, open);
            } else {
                readHolder(street, first);
            }
            if (cursor.fine()) {
                repeat(start, times, first);
            }
        }

        private void readRound(Terrace street, int open) {
            if (open >= MOST_OPEN) {
                cursor.failHere(FAULT_DEPTH);
                return;
            }
            cursor.step();
            readTurns(street, open + 1);
            if (cursor.fine()) {
                cursor.expect(')');
            }
        }

        private void readHolder(Terrace street, int first) {
            int sign = cursor.sign;
            boolean house = sign >= 'a' && sign <= 'p';
            if (!house && sign != '-') {
                cursor.failHere(FAULT_SIGN);
            } else if (length >= TURNS) {
                cursor.fail(FAULT_MUCH, first);
            } else {
                if (house && !street.hasHouse(sign - 'a') && strangerPlace == NONE) {
                    strangerPlace = cursor.place;
                }
                draft[length] = house ? sign - 'a' : NOBODY;
                length++;
                cursor.step();
            }
        }

        /** What has been read since a start is there once already. */
        private void repeat(int start, int times, int first) {
            int once = length - start;
            if (start + once * times > TURNS) {
                cursor.fail(FAULT_MUCH, first);
                return;
            }
            for (int i = length; i < start + once * times; i++) {
                draft[i] = draft[i - once];
            }
            length = start + once * times;
        }
    }

    /**
     * THE LAW, as steps for a small machine: numbers on a stack, and whether what was tested last holds.
     * A step is a word: its kind in the four low bits, its number or its goal above them.
     */
    private static final class Law {
        private static final int MOST_RULES = 16;
        private static final int MOST_STEPS = 288;
        private static final int MOST_STACKED = 32;
        private static final int STOP = 0;
        private static final int NUMBER = 1;
        private static final int LETTER = 2;
        private static final int PLUS = 3;
        private static final int MINUS = 4;
        private static final int TIMES = 5;
        private static final int OVER = 6;
        private static final int REST = 7;
        private static final int LESS = 8;
        private static final int MORE = 9;
        private static final int SAME = 10;
        private static final int NOT = 11;
        private static final int JUMP_IF = 12;
        private static final int JUMP_UNLESS = 13;
        private static final int LETTERS = 9;
        private static final String LETTER_SIGNS = "hgsdnbktw";

        private final int[] kinds = new int[MOST_RULES];
        private final int[] worths = new int[MOST_RULES];
        private final int[] tests = new int[MOST_RULES];
        private final int[] steps = new int[MOST_STEPS];
        private final int[] letters = new int[LETTERS];
        private final int[] stack = new int[MOST_STACKED];
        private int ruleCount = 0;
        private int stepCount = 0;
        private int stacked = 0;
        private boolean holding = false;
        private boolean refused = false;

        private void clear() {
            ruleCount = 0;
            stepCount = 0;
        }

        private void addRule(int kind, int worth, int test) {
            if (ruleCount < MOST_RULES) {
                kinds[ruleCount] = kind;
                worths[ruleCount] = worth;
                tests[ruleCount] = test;
                ruleCount++;
            }
        }

        private int addStep(int kind, int number) {
            int place = stepCount;
            if (stepCount < MOST_STEPS) {
                steps[stepCount] = number << 4 | kind;
                stepCount++;
            }
            return place;
        }

        private void aimHere(int jump) {
            if (jump >= 0 && jump < stepCount) {
                steps[jump] = stepCount << 4 | steps[jump] & 15;
            }
        }

        private void setLetter(int letter, int value) {
            if (letter >= 0 && letter < LETTERS) {
                letters[letter] = value;
            }
        }

        private boolean leavesIt() {
            return firstRule('x') != NONE;
        }

        private int worthOf(int kind, int most, int otherwise) {
            int rule = firstRule(kind);
            if (rule == NONE) {
                return otherwise;
            }
            work(worths[rule]);
            return refused ? 0 : Math.max(0, Math.min(most, stack[0]));
        }

        private int firstRule(int kind) {
            for (int rule = 0; rule < ruleCount; rule++) {
                if (kinds[rule] == kind) {
                    work(tests[rule]);
                    if (holding && !refused) {
                        return rule;
                    }
                }
            }
            return NONE;
        }

        /** Jumps only lead ahead, so no step is taken twice. */
        private void work(int start) {
            stacked = 0;
            holding = false;
            refused = false;
            int place = start;
            for (int taken = 0; taken < MOST_STEPS && !refused; taken++) {
                if (place < 0 || place >= stepCount || steps[place] == STOP) {
                    return;
                }
                int kind = steps[place] & 15;
                int number = steps[place] >> 4;
                boolean jumps = kind == JUMP_IF && holding || kind == JUMP_UNLESS && !holding;
                place = jumps ? number : place + 1;
                if (kind < JUMP_IF) {
                    takeStep(kind, number);
                }
            }
        }

        private void takeStep(int kind, int number) {
            if (kind == NOT) {
                holding = !holding;
            } else if (kind == NUMBER || kind == LETTER) {
                if (stacked < MOST_STACKED) {
                    stack[stacked] = kind == NUMBER ? number : letterValue(number);
                    stacked++;
                }
            } else if (stacked >= 2) {
                stacked--;
                int left = stack[stacked - 1];
                int right = stack[stacked];
                if (kind < LESS) {
                    stack[stacked - 1] = reckon(kind, left, right);
                } else {
                    stacked--;
                    holding = kind == LESS ? left < right : kind == MORE ? left > right : left == right;
                }
            }
        }

        private int letterValue(int letter) {
            return letter >= 0 && letter < LETTERS ? letters[letter] : 0;
        }

        private int reckon(int kind, int left, int right) {
            if (kind == PLUS) {
                return left + right;
            }
            if (kind == MINUS) {
                return left - right;
            }
            if (kind == TIMES) {
                return left * right;
            }
            if (right == 0) {
                refused = true;
                return 0;
            }
            return kind == OVER ? left / right : left % right;
        }
    }

    /** Reads THE LAW. */
    private static final class LawReader {
        private static final int MOST_OPEN = 6;
        private static final int MOST_DIGITS = 5;
        private final Cursor cursor;

        private LawReader(Cursor cursor) {
            this.cursor = cursor;
        }

        private int readLaw(int n, Law into) {
            cursor.start(n);
            into.clear();
            int read = 0;
            boolean more = true;
            while (more && read <= Law.MOST_RULES) {
                readRule(read, into);
                read++;
                more = cursor.passesSemicolon();
            }
            return cursor.fine() ? read : cursor.fault;
        }

        private void readRule(int rulesAhead, Law into) {
            int kind = cursor.sign;
            if (kind != 'c' && kind != 'j' && kind != 'x') {
                cursor.failHere(FAULT_SIGN);
                return;
            }
            if (rulesAhead >= Law.MOST_RULES) {
                cursor.failHere(FAULT_LINES);
                return;
            }
            cursor.step();
            int worth = into.stepCount;
            if (kind != 'x') {
                readSum(into, 0);
                into.addStep(Law.STOP, 0);
            }
            cursor.expect('(');
            int test = into.stepCount;
            readChoice(into, 1);
            cursor.expect(')');
            into.addStep(Law.STOP, 0);
            into.addRule(kind, worth, test);
        }

        private void readChoice(Law into, int open) {
            readPart(into, open);
            for (int i = 0; i < MOST_LAW_BYTES && cursor.fine() && cursor.sign == '|'; i++) {
                cursor.step();
                int jump = into.addStep(Law.JUMP_IF, 0);
                readPart(into, open);
                into.aimHere(jump);
            }
        }

        private void readPart(Law into, int open) {
            readTest(into, open);
            for (int i = 0; i < MOST_LAW_BYTES && cursor.fine() && cursor.sign == '&'; i++) {
                cursor.step();
                int jump = into.addStep(Law.JUMP_UNLESS, 0);
                readTest(into, open);
                into.aimHere(jump);
            }
        }

        private void readTest(Law into, int open) {
            if (!cursor.fine()) {
                return;
            }
            int sign = cursor.sign;
            if (sign == '!' && opens(open)) {
                readTest(into, open + 1);
                into.addStep(Law.NOT, 0);
            } else if (sign == '(' && opens(open)) {
                readChoice(into, open + 1);
                cursor.expect(')');
            } else if (cursor.fine()) {
                readSum(into, open);
                int kind = comparisonOf(cursor.sign);
                if (kind == NONE) {
                    cursor.failHere(FAULT_SIGN);
                } else {
                    cursor.step();
                    readSum(into, open);
                    into.addStep(kind, 0);
                }
            }
        }

        /** Steps over a sign that opens, if not too many are open already. */
        private boolean opens(int open) {
            if (open >= MOST_OPEN) {
                cursor.failHere(FAULT_DEPTH);
                return false;
            }
            cursor.step();
            return true;
        }

        private void readSum(Law into, int open) {
            readTerm(into, open);
            int kind = sumOf(cursor.sign);
            for (int i = 0; i < MOST_LAW_BYTES && cursor.fine() && kind != NONE; i++) {
                cursor.step();
                readTerm(into, open);
                into.addStep(kind, 0);
                kind = sumOf(cursor.sign);
            }
        }

        private void readTerm(Law into, int open) {
            readFactor(into, open);
            int kind = productOf(cursor.sign);
            for (int i = 0; i < MOST_LAW_BYTES && cursor.fine() && kind != NONE; i++) {
                cursor.step();
                readFactor(into, open);
                into.addStep(kind, 0);
                kind = productOf(cursor.sign);
            }
        }

        private void readFactor(Law into, int open) {
            if (!cursor.fine()) {
                return;
            }
            int letter = letterOf(cursor.sign);
            if (letter != NONE) {
                into.addStep(Law.LETTER, letter);
                cursor.step();
            } else if (cursor.sign != '[') {
                into.addStep(Law.NUMBER, cursor.readNumber(MOST_DIGITS));
            } else if (opens(open)) {
                readSum(into, open + 1);
                cursor.expect(']');
            }
        }

        private static int comparisonOf(int sign) {
            return sign == '<' ? Law.LESS : sign == '>' ? Law.MORE : sign == '=' ? Law.SAME : NONE;
        }

        private static int sumOf(int sign) {
            return sign == '+' ? Law.PLUS : sign == '-' ? Law.MINUS : NONE;
        }

        private static int productOf(int sign) {
            return sign == '*' ? Law.TIMES : sign == '/' ? Law.OVER : sign == '%' ? Law.REST : NONE;
        }

        private static int letterOf(int sign) {
            return sign > 0 ? Law.LETTER_SIGNS.indexOf((char) sign) : NONE;
        }
    }

    /** What KEPT keeps and UNDONE brings back: THE WINDOW, BRINGS, CRACKS, JOY, THE DAY and X. */
    private static final class State {
        private static final int MOST_X = 65535;
        private static final int MOST_CRACKS = 9999;
        private static final int MOST_JOY = 99999;
        private static final int MOST_CRACKS_MORE = 9;
        private static final int MOST_JOY_MORE = 99;
        private static final int LAST_DAY = 9999;
        private static final int FIRST_SEED = 1;

        private final int[] joy = new int[HOUSES];
        private int window = NOBODY;
        private int brings = 0;
        private int cracks = 0;
        private int day = 0;
        private int x = FIRST_SEED;

        private void startAnew() {
            window = NOBODY;
            brings = 0;
            cracks = 0;
            for (int house = 0; house < HOUSES; house++) {
                joy[house] = 0;
            }
        }

        private void copyFrom(State other) {
            window = other.window;
            brings = other.brings;
            cracks = other.cracks;
            day = other.day;
            x = other.x;
            System.arraycopy(other.joy, 0, joy, 0, HOUSES);
        }

        private void dropStrangers(Terrace street) {
            if (!street.hasHouse(window)) {
                window = NOBODY;
            }
            for (int house = 0; house < HOUSES; house++) {
                if (!street.hasHouse(house)) {
                    joy[house] = 0;
                }
            }
        }

        private int joyOf(int house) {
            return house >= 0 && house < HOUSES ? joy[house] : 0;
        }

        private int joyOfAll() {
            int sum = 0;
            for (int house = 0; house < HOUSES; house++) {
                sum += joy[house];
            }
            return sum;
        }

        private void liveDays(int n, Rota plan, Terrace street, Law rules) {
            for (int i = 0; i < n && day < LAST_DAY; i++) {
                for (int turn = 0; turn < TURNS; turn++) {
                    int house = plan.holder(turn);
                    if (house != NOBODY) {
                        x = (25173 * x + 13849) % (MOST_X + 1);
                        carry(house, turn, street, rules);
                        lookThrough(turn, street, rules);
                    }
                }
                day++;
            }
        }

        private void carry(int house, int turn, Terrace street, Law rules) {
            if (window == house) {
                return;
            }
            tellLaw(rules, house, turn, street.view(house, turn));
            if (!rules.leavesIt()) {
                cracks = Math.min(MOST_CRACKS, cracks + rules.worthOf('c', MOST_CRACKS_MORE, 0));
                window = house;
            }
        }

        private void lookThrough(int turn, Terrace street, Law rules) {
            if (window < 0 || window >= HOUSES) {
                return;
            }
            int seen = street.view(window, turn);
            tellLaw(rules, window, turn, seen);
            int plain = Integer.bitCount(seen) + Integer.bitCount(brings);
            joy[window] = Math.min(MOST_JOY, joy[window] + rules.worthOf('j', MOST_JOY_MORE, plain));
            if (seen != 0) {
                brings = seen;
            }
        }

        /** The letters by their places in Law.LETTER_SIGNS. */
        private void tellLaw(Law rules, int house, int turn, int seen) {
            rules.setLetter(0, house);
            rules.setLetter(1, window == NOBODY ? HOUSES : window);
            rules.setLetter(2, turn);
            rules.setLetter(3, window == NOBODY ? 0 : Math.abs(house - window));
            rules.setLetter(4, Integer.bitCount(seen));
            rules.setLetter(5, Integer.bitCount(brings));
            rules.setLetter(6, cracks % 100);
            rules.setLetter(7, day % 100);
            rules.setLetter(8, x % 10);
        }
    }

    /**
     * THE SHORTEST ROTA. A TURN that grants no wish only makes a WAY longer, so just those that grant one
     * are tried. What is reached is held as WAY times 16 and the first HOUSE, so the less is the better.
     */
    private static final class Wishes {
        private static final int MOST = 6;
        private static final int SETS = 64;
        private static final int UNREACHED = 1000000;
        private final int[] wisher = new int[MOST];
        private final int[] wished = new int[MOST];
        private final int[] gains = new int[MOST];
        private final int[] reached = new int[SETS * MOST];
        private int number = 0;

        private boolean take(Tape tape, int n, Terrace street) {
            boolean allTold = true;
            number = Math.min(n, MOST);
            for (int i = 0; i < number; i++) {
                wisher[i] = tape.byteAt(2 * i);
                wished[i] = tape.byteAt(2 * i + 1);
                allTold = allTold && street.hasHouse(wisher[i]) && street.hasThing(wished[i]);
            }
            return allTold;
        }

        private int answer(Terrace street, int what) {
            for (int i = 0; i < SETS * MOST; i++) {
                reached[i] = UNREACHED;
            }
            for (int turn = 0; turn < TURNS; turn++) {
                tryTurn(street, turn);
            }
            int best = UNREACHED;
            for (int last = 0; last < number; last++) {
                best = Math.min(best, reached[((1 << number) - 1) * MOST + last]);
            }
            if (best >= UNREACHED) {
                return NONE_AT_ALL;
            }
            return what == 0 ? best / HOUSES : best % HOUSES;
        }

        /** From the greatest set down, as a set leads to greater ones and a TURN is one HOUSE's only. */
        private void tryTurn(Terrace street, int turn) {
            for (int wish = 0; wish < number; wish++) {
                gains[wish] = granted(street.view(wisher[wish], turn), wisher[wish]);
            }
            for (int set = (1 << number) - 1; set >= 0; set--) {
                for (int wish = 0; wish < number; wish++) {
                    int more = set | gains[wish];
                    if (more != set) {
                        int cell = more * MOST + wish;
                        reached[cell] = Math.min(reached[cell], costTo(set, wisher[wish]));
                    }
                }
            }
        }

        private int granted(int seen, int house) {
            int set = 0;
            for (int wish = 0; wish < number; wish++) {
                if (wisher[wish] == house && (seen >> wished[wish] & 1) == 1) {
                    set |= 1 << wish;
                }
            }
            return set;
        }

        private int costTo(int set, int house) {
            if (set == 0) {
                return house;
            }
            int least = UNREACHED;
            for (int last = 0; last < number; last++) {
                int cost = reached[set * MOST + last];
                if (cost < UNREACHED) {
                    least = Math.min(least, cost + HOUSES * Math.abs(house - wisher[last]));
                }
            }
            return least;
        }
    }

    /** What is reckoned from the bytes of the tape alone. */
    private static final class Games {
        private static final int MOST_HOURS = 12;
        private static final int MOST_PEOPLE = 8;
        private static final int MOST_PANES = 6;
        private static final int MOST_OFFERS = 20;
        private static final int SETS = 256;
        private static final int NONE_CAME = 12;
        private final Tape tape;
        private final int[] lead = new int[MOST_HOURS];
        private final int[] best = new int[SETS];
        private final long[] ways = new long[TURNS + 1];

        private Games(Tape tape) {
            this.tape = tape;
        }

        private int possibleCracks(int n) {
            int possible = 0;
            for (int came = 0; came <= NONE_CAME; came++) {
                possible |= 1 << came;
            }
            for (int i = 0; i < n; i++) {
                int turn = tape.byteAt(2 * i);
                int said = tape.byteAt(2 * i + 1);
                if (!isTurn(turn) || said > 1) {
                    return NO_SUCH;
                }
                int upTo = (2 << turn) - 1;
                possible &= said == 1 ? upTo : ~upTo;
            }
            return possible;
        }

        /** The lead is what he whose hour it is gets more than the other one, of each part of the row. */
        private int firstShare(int n) {
            int sum = 0;
            for (int i = 0; i < n && i < MOST_HOURS; i++) {
                lead[i] = tape.byteAt(i);
                sum += lead[i];
            }
            for (int length = 2; length <= n; length++) {
                for (int i = 0; i + length <= n && i + 1 < MOST_HOURS; i++) {
                    int byFirst = tape.byteAt(i) - lead[i + 1];
                    int byLast = tape.byteAt(i + length - 1) - lead[i];
                    lead[i] = Math.max(byFirst, byLast);
                }
            }
            return (sum + lead[0]) / 2;
        }

        private int worth(int n, int person, int turn) {
            return tape.byteAt(n * person + turn);
        }

        private boolean wouldSwap(int n, int one, int other) {
            return worth(n, one, other) > worth(n, one, one) && worth(n, other, one) > worth(n, other, other);
        }

        private int willingTwos(int n) {
            int twos = 0;
            for (int one = 0; one < n; one++) {
                for (int other = one + 1; other < n; other++) {
                    if (wouldSwap(n, one, other)) {
                        twos++;
                    }
                }
            }
            return twos;
        }

        private int mostSwapsAtOnce(int n) {
            best[0] = 0;
            for (int people = 1; people < 1 << n && people < SETS; people++) {
                int one = Integer.numberOfTrailingZeros(people);
                int others = people & ~(1 << one);
                int most = best[others];
                for (int other = one + 1; other < n; other++) {
                    if ((others >> other & 1) == 1 && wouldSwap(n, one, other)) {
                        most = Math.max(most, 1 + best[others & ~(1 << other)]);
                    }
                }
                best[people] = most;
            }
            return n <= MOST_PEOPLE ? best[(1 << n) - 1] : 0;
        }

        /** Of each set of TURNS that are gone: the most that those who have none yet can have. */
        private int sell(int n) {
            for (int gone = Math.min(1 << n, SETS) - 1; gone >= 0; gone--) {
                int person = Integer.bitCount(gone);
                int most = 0;
                for (int turn = 0; turn < n; turn++) {
                    if ((gone >> turn & 1) == 0) {
                        most = Math.max(most, worth(n, person, turn) + best[gone | 1 << turn]);
                    }
                }
                best[gone] = most;
            }
            return best[0];
        }

        private int buyerOf(int wanted, int n) {
            int gone = 0;
            for (int person = 0; person < n; person++) {
                int turn = turnOf(person, gone, n);
                if (turn == wanted) {
                    return person;
                }
                gone |= 1 << turn;
            }
            return NONE;
        }

        private int turnOf(int person, int gone, int n) {
            for (int turn = 0; turn < n && gone < SETS; turn++) {
                boolean free = (gone >> turn & 1) == 0;
                if (free && worth(n, person, turn) + best[gone | 1 << turn] == best[gone]) {
                    return turn;
                }
            }
            return 0;
        }

        /** TURN by TURN, of each number of HOUSES that have had one: in how many ways. */
        private long rotasOf(int k) {
            if (k < 1 || k > TURNS) {
                return NONE;
            }
            for (int had = 0; had <= TURNS; had++) {
                ways[had] = had == 1 ? k : 0;
            }
            for (int turn = 1; turn < TURNS; turn++) {
                for (int had = k; had >= 1; had--) {
                    ways[had] = ways[had] * (had - 1) + ways[had - 1] * (k - had + 1);
                }
            }
            return ways[k];
        }

        private int greatestPane(int n, int wide) {
            int greatest = 0;
            for (int top = 0; top < n; top++) {
                int blind = 0;
                for (int row = top; row < n; row++) {
                    blind |= tape.byteAt(row);
                    greatest = Math.max(greatest, (row - top + 1) * widestClear(blind, wide));
                }
            }
            return greatest;
        }

        private static int widestClear(int blind, int wide) {
            int run = 0;
            int widest = 0;
            for (int column = 0; column < wide; column++) {
                run = (blind >> column & 1) == 0 ? run + 1 : 0;
                widest = Math.max(widest, run);
            }
            return widest;
        }

        private int hadByLettingGo(int k, int n) {
            int highest = -1;
            for (int i = 0; i < n; i++) {
                int brought = tape.byteAt(i);
                if (i >= k && brought > highest) {
                    return brought;
                }
                highest = Math.max(highest, brought);
            }
            return tape.byteAt(n - 1);
        }

        private int bestToLetGo(int n) {
            int bestK = 0;
            for (int k = 1; k < n; k++) {
                if (hadByLettingGo(k, n) > hadByLettingGo(bestK, n)) {
                    bestK = k;
                }
            }
            return bestK;
        }
    }
}
