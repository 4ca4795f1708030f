/**
 * Airway slots of a storm: flights of several lines to one field whose rates a storm cuts.
 * The document numbers its promises; the public methods stand here in its order.
 */
public final class StormSlots {
    public static final int NONE = -1;

    private static final int LACKS = -2;
    private static final int CANNOT = -1000000;
    private static final int LINES = 5;
    private static final int MOST_FLIGHTS = 20;
    private static final int HOURS = 12;
    private static final int HOUR = 60;
    private static final int MOST_RATE = 12;
    private static final int MOST_TIME = 300;
    private static final int MOST_WEIGHT = 9;
    /** Up to this minute SLOTS come by RATES; behind it there is one each LATE_STEP minutes. */
    private static final int DAY = 720;
    private static final int LATE_STEP = 5;
    private static final int MINUTES = 1200;
    private static final int FEED = 20;
    private static final int MOST_TEXT = 160;
    private static final int MOST_KEPT = 8;
    private static final int BY_SCHEDULE = 0;
    private static final int BY_WEIGHT = 1;
    private static final int BY_TURNS = 2;

    private final Bytes tape;
    private final Bytes text;
    private final Reader reader;
    private final Dice dice;
    /** FLIGHTS that are read or drawn, till all of them are right to take the place of the field's. */
    private final Roster fresh;
    private final Planner planner;
    private final OrderSearch search;
    private final Field field;
    /** Where what would be is tried, so that the field itself stays as it is. */
    private final Field trial;
    private final Field[] kept;
    private int keptStates;

    public StormSlots() {
        tape = new Bytes();
        text = new Bytes();
        reader = new Reader();
        dice = new Dice();
        fresh = new Roster();
        planner = new Planner();
        search = new OrderSearch();
        field = new Field();
        trial = new Field();
        kept = new Field[MOST_KEPT];
        keptStates = 0;
    }

    public int feed(int a, int b, int c, int d, int e) {
        if (tape.size + FEED > Bytes.MOST) {
            return NONE;
        }
        tape.appendFour(a);
        tape.appendFour(b);
        tape.appendFour(c);
        tape.appendFour(d);
        tape.appendFour(e);
        return tape.size;
    }

    public int schedule(int n) {
        if (n < 1 || n > MOST_TEXT || n > tape.size) {
            return NONE;
        }
        int fault = reader.read(tape, n, fresh);
        tape.size = 0;
        if (fault != 0) {
            return fault;
        }
        field.takeRoster(fresh);
        return field.roster.size;
    }

    public int flight(int line, int eta, int time, int weight) {
        if (!isLine(line) || !isDayMinute(eta)) {
            return NONE;
        }
        if (time < 0 || time > MOST_TIME || weight < 1 || weight > MOST_WEIGHT) {
            return NONE;
        }
        return field.roster.add(line, eta, time, weight);
    }

    public int draws(int seed, int n) {
        if (n < 1 || n > MOST_FLIGHTS) {
            return NONE;
        }
        dice.start(seed);
        fresh.size = 0;
        for (int f = 0; f < n; f++) {
            int line = dice.roll(LINES);
            int eta = dice.roll(DAY);
            int time = dice.roll(MOST_TIME + 1);
            int weight = dice.roll(MOST_WEIGHT) + 1;
            fresh.add(line, eta, time, weight);
        }
        field.takeRoster(fresh);
        return dice.x;
    }

    public int letter(int k) {
        if (k < NONE) {
            return NONE;
        }
        field.roster.writeTo(text);
        if (k == NONE) {
            return text.size;
        }
        return k < text.size ? text.byteAt(k) : LACKS;
    }

    public int rate(int hour, int r) {
        if (!isHour(hour) || !isRate(r)) {
            return NONE;
        }
        int before = field.rates.of(hour);
        field.rates.put(hour, r);
        return before;
    }

    public int storm(int seed, int x, int y, int most) {
        if (!areHours(x, y) || !isRate(most)) {
            return NONE;
        }
        dice.start(seed);
        for (int h = x; h <= y; h++) {
            field.rates.put(h, dice.roll(most + 1));
        }
        return dice.x;
    }

    public boolean now(int minute) {
        if (!isDayMinute(minute) || minute < field.clock) {
            return false;
        }
        field.clock = minute;
        return true;
    }

    public int told(int f, int what) {
        if (!field.isFlight(f)) {
            return NONE;
        }
        switch (what) {
            case 0: return field.roster.line[f];
            case 1: return field.roster.eta[f];
            case 2: return field.roster.time[f];
            case 3: return field.roster.weight[f];
            case 4: return field.earliest(f);
            case 5: return field.isSeated(f) ? field.seat[f] : LACKS;
            case 6: return field.isSeated(f) ? field.hold[f] : LACKS;
            case 7: return field.isSeated(f) ? field.circles[f] : LACKS;
            case 8: return field.isAloft(f) ? 1 : 0;
            case 9: return field.isCancelled(f) ? 1 : 0;
            case 10: return field.isSeated(f) ? field.costOf(f) : LACKS;
            default: return NONE;
        }
    }

    public int slot(int k) {
        if (k < 0) {
            return NONE;
        }
        return field.rates.slotMinute(k);
    }

    public int at(int minute) {
        if (!isMinute(minute)) {
            return NONE;
        }
        int f = field.flightIn(minute);
        if (f != NONE) {
            return f;
        }
        if (field.vacancies.find(minute) != NONE) {
            return -3;
        }
        return field.rates.hasSlot(minute) ? -2 : -4;
    }

    // ---- the plan

    public int plan() {
        if (field.roster.size == 0) {
            return LACKS;
        }
        planner.planAnew(field, BY_SCHEDULE);
        return field.countWaiting();
    }

    public int revise() {
        if (!field.planned) {
            return LACKS;
        }
        return planner.planOn(field);
    }

    public int cancel(int f) {
        if (!field.isFlight(f)) {
            return NONE;
        }
        if (!field.isSeated(f)) {
            return -2;
        }
        if (field.isAloft(f)) {
            return -3;
        }
        return field.callOff(f);
    }

    public int exchange(int f, int g) {
        if (!field.canSwap(f, g)) {
            return CANNOT;
        }
        int before = field.costOf(f) + field.costOf(g);
        field.swap(f, g);
        return before - field.costOf(f) - field.costOf(g);
    }

    public int move(int f, int minute) {
        if (!field.isFlight(f) || !isMinute(minute)) {
            return NONE;
        }
        int k = field.vacancies.find(minute);
        if (k == NONE || !field.isGrounded(f) || minute < field.earliest(f)) {
            return -2;
        }
        if (!field.isOf(f, field.vacancies.keeperOf(k))) {
            return -2;
        }
        return field.takeVacancy(f, k);
    }

    public int fill() {
        return field.fillVacancies();
    }

    public int vacant(int k, int what) {
        if (k < 0 || what < 0 || what > 1) {
            return NONE;
        }
        if (k >= field.vacancies.size) {
            return LACKS;
        }
        return what == 0 ? field.vacancies.minuteOf(k) : field.vacancies.keeperOf(k);
    }

    // ---- deals

    public int offer(int a, int x, int b, int y) {
        if (!field.isFlight(a) || !field.isFlight(b) || a == b) {
            return NONE;
        }
        if (!isMinute(x) || !isMinute(y)) {
            return NONE;
        }
        if (!field.isGrounded(a) || !field.isGrounded(b) || !field.roster.sameLine(a, b)) {
            return -2;
        }
        int i = field.offers.lowestFree();
        if (i == NONE) {
            return -3;
        }
        field.offers.put(i, a, x, b, y);
        return i;
    }

    public boolean withdraw(int i) {
        if (!field.offers.has(i)) {
            return false;
        }
        field.offers.drop(i);
        return true;
    }

    public int offered(int i, int what) {
        if (!field.offers.has(i)) {
            return NONE;
        }
        switch (what) {
            case 0: return field.offers.down[i];
            case 1: return field.offers.downTo[i];
            case 2: return field.offers.up[i];
            case 3: return field.offers.upTo[i];
            default: return NONE;
        }
    }

    public int deal(int i, int j) {
        if (!field.canDeal(i, j)) {
            return CANNOT;
        }
        int gain = field.dealGain(i, j);
        field.trade(i, j);
        field.trade(j, i);
        field.offers.drop(i);
        field.offers.drop(j);
        return gain;
    }

    public int bestDeal(int what) {
        if (what < 0 || what > 2) {
            return CANNOT;
        }
        int bestI = NONE;
        int bestJ = NONE;
        int most = 0;
        for (int i = 0; i < Offers.MOST; i++) {
            for (int j = i + 1; j < Offers.MOST; j++) {
                if (!field.canDeal(i, j)) {
                    continue;
                }
                int gain = field.dealGain(i, j);
                if (bestI == NONE || gain > most) {
                    bestI = i;
                    bestJ = j;
                    most = gain;
                }
            }
        }
        if (bestI == NONE) {
            return CANNOT;
        }
        if (what == 2) {
            return most;
        }
        return what == 0 ? bestI : bestJ;
    }

    // ---- lines

    public int line(int l, int what) {
        if (!isLine(l)) {
            return NONE;
        }
        switch (what) {
            case 0: return field.flightsOf(l);
            case 1: return field.cancelledOf(l);
            case 2: return field.waitsOf(l);
            case 3: return field.lineCost(l);
            case 4: return field.longestWaitOf(l);
            case 5: return field.vacancies.keptBy(l);
            case 6: return field.aloftOf(l);
            default: return NONE;
        }
    }

    public int bestOrder(int l, int f) {
        if (!isLine(l) || (f != NONE && !field.isFlight(f))) {
            return NONE;
        }
        if (f == NONE) {
            search.solve(field, l);
            return field.lineCost(l) - search.gain();
        }
        if (!field.isSeated(f) || !field.isOf(f, l)) {
            return LACKS;
        }
        search.solve(field, l);
        int minute = search.minuteFor(f);
        return minute == NONE ? field.seat[f] : minute;
    }

    public int order(int l) {
        if (!isLine(l)) {
            return NONE;
        }
        search.solve(field, l);
        for (int k = 0; k < search.size && k < OrderSearch.MOST; k++) {
            field.seatOnGround(search.flights[k], search.best[k]);
        }
        return search.gain();
    }

    public int bestCancel(int l, int what) {
        if (!isLine(l) || what < 0 || what > 1) {
            return NONE;
        }
        int best = NONE;
        int least = 0;
        for (int f = 0; f < MOST_FLIGHTS; f++) {
            if (!field.isOf(f, l) || !field.isGrounded(f)) {
                continue;
            }
            tryCancel(f);
            int cost = trial.lineCost(l);
            if (best == NONE || cost < least) {
                best = f;
                least = cost;
            }
        }
        if (best == NONE) {
            return LACKS;
        }
        return what == 0 ? best : least;
    }

    public int helps(int f, int m) {
        if (!isLine(m) || !field.isFlight(f) || !field.isGrounded(f)) {
            return CANNOT;
        }
        tryCancel(f);
        // what f itself waits is no help to its own LINE: WAITS of both sides are those without it
        int own = field.isOf(f, m) ? field.waitOf(f) : 0;
        return field.waitsOf(m) - own - trial.waitsOf(m);
    }

    public int rank(int k) {
        if (k < 0) {
            return NONE;
        }
        for (int l = 0; l < LINES; l++) {
            if (field.seatedOf(l) > 0 && field.linesAhead(l) == k) {
                return l;
            }
        }
        return LACKS;
    }

    public int unfair() {
        return field.unfairness();
    }

    // ---- links

    public int link(int f, int g, int gap) {
        if (!field.isFlight(f) || !field.isFlight(g) || f == g) {
            return NONE;
        }
        if (gap < 0 || gap > MOST_TIME) {
            return NONE;
        }
        return field.links.add(f, g, gap);
    }

    public int linked(int i, int what) {
        if (!field.links.has(i)) {
            return NONE;
        }
        switch (what) {
            case 0: return field.links.from[i];
            case 1: return field.links.onto[i];
            case 2: return field.links.gap[i];
            case 3: return field.lackOf(i) == 0 ? 0 : 1;
            case 4: return field.lackOf(i);
            default: return NONE;
        }
    }

    public int breaks(int f, int minute) {
        if (!field.isFlight(f) || !isMinute(minute)) {
            return CANNOT;
        }
        if (!field.isGrounded(f) || minute < field.earliest(f)) {
            return CANNOT;
        }
        trial.copyFrom(field);
        trial.seatOnGround(f, minute);
        return trial.countBroken() - field.countBroken();
    }

    public int round(int i, int j, int k) {
        if (!field.canRound(i, j, k)) {
            return CANNOT;
        }
        int gain = field.tradeGain(i, j) + field.tradeGain(j, k) + field.tradeGain(k, i);
        field.trade(i, j);
        field.trade(j, k);
        field.trade(k, i);
        field.offers.drop(i);
        field.offers.drop(j);
        field.offers.drop(k);
        return gain;
    }

    public int cancelAll(int l) {
        if (!isLine(l)) {
            return NONE;
        }
        int bits = 0;
        for (int f = 0; f < MOST_FLIGHTS; f++) {
            if (field.isOf(f, l) && field.isGrounded(f)) {
                field.callOff(f);
                bits |= 1 << f;
            }
        }
        return bits;
    }

    // ---- what would be

    public int byRule(int rule, int what) {
        if (rule < BY_SCHEDULE || rule > BY_TURNS || what < 0 || what > 3) {
            return NONE;
        }
        if (field.roster.size == 0) {
            return LACKS;
        }
        trial.copyFrom(field);
        planner.planAnew(trial, rule);
        switch (what) {
            case 0: return trial.totalCost();
            case 1: return trial.totalHold();
            case 2: return trial.longestWait();
            default: return trial.unfairness();
        }
    }

    public int demand(int h, int what) {
        if (!isHour(h)) {
            return NONE;
        }
        switch (what) {
            case 0: return field.dueIn(h);
            case 1: return field.rates.of(h);
            case 2: return field.seatedIn(h);
            default: return NONE;
        }
    }

    public int crowded(int what) {
        if (what < 0 || what > 1) {
            return NONE;
        }
        int most = 0;
        int first = 0;
        // The count grows only where a flight goes off, so no other minute can be the first of the most.
        for (int f = 0; f < MOST_FLIGHTS; f++) {
            if (!field.isSeated(f)) {
                continue;
            }
            int minute = Math.max(0, field.goesOff(f));
            int underWay = Integer.bitCount(field.underWay(minute));
            if (underWay > most || (underWay == most && most > 0 && minute < first)) {
                most = underWay;
                first = minute;
            }
        }
        return what == 0 ? most : first;
    }

    public int would(int r, int x, int y, int what) {
        if (!isRate(r) || !areHours(x, y) || what < 0 || what > 2) {
            return NONE;
        }
        if (field.roster.size == 0) {
            return LACKS;
        }
        trial.copyFrom(field);
        trial.rates.putAll(x, y, r);
        planner.planAnew(trial, BY_SCHEDULE);
        switch (what) {
            case 0: return trial.totalHold();
            case 1: return trial.totalCircles();
            default: return trial.lastSlot();
        }
    }

    public int rateFor(int x, int y, int minutes) {
        if (!areHours(x, y) || minutes < 0 || minutes > MINUTES) {
            return NONE;
        }
        if (field.roster.size == 0) {
            return LACKS;
        }
        trial.copyFrom(field);
        for (int r = 0; r <= MOST_RATE; r++) {
            trial.rates.putAll(x, y, r);
            planner.planAnew(trial, BY_SCHEDULE);
            if (trial.longestWait() <= minutes) {
                return r;
            }
        }
        return LACKS;
    }

    public int ifCut(int minute, int r) {
        if (!isDayMinute(minute) || minute < field.clock || !isRate(r)) {
            return NONE;
        }
        if (!field.planned) {
            return LACKS;
        }
        trial.copyFrom(field);
        trial.clock = minute;
        trial.rates.putAll(minute / HOUR, HOURS - 1, r);
        planner.planOn(trial);
        return trial.totalCircles();
    }

    public int airborne(int minute) {
        return isMinute(minute) ? field.underWay(minute) : NONE;
    }

    public int next(int minute) {
        return isMinute(minute) ? field.landsNext(minute) : NONE;
    }

    // ---- all

    public int count(int what) {
        switch (what) {
            case 0: return field.roster.size;
            case 1: return field.clock;
            case 2: return field.planned ? 1 : 0;
            case 3: return field.totalHold();
            case 4: return field.totalCircles();
            case 5: return field.countCancelled();
            case 6: return field.vacancies.size;
            case 7: return field.offers.countMade();
            case 8: return tape.size;
            case 9: return keptStates;
            case 10: return field.rates.countSlots();
            case 11: return field.links.size;
            case 12: return field.countBroken();
            default: return isHour(what - 20) ? field.rates.of(what - 20) : NONE;
        }
    }

    public int keep() {
        if (keptStates < 0 || keptStates >= MOST_KEPT) {
            return NONE;
        }
        Field state = kept[keptStates];
        if (state == null) {
            state = new Field();
            kept[keptStates] = state;
        }
        state.copyFrom(field);
        keptStates++;
        return keptStates;
    }

    public int undo() {
        int last = keptStates - 1;
        if (last < 0 || last >= MOST_KEPT) {
            return NONE;
        }
        Field state = kept[last];
        if (state == null) {
            return NONE;
        }
        field.copyFrom(state);
        keptStates = last;
        return keptStates;
    }

    private void tryCancel(int f) {
        trial.copyFrom(field);
        trial.callOff(f);
        trial.fillVacancies();
    }

    private static boolean isLine(int l) {
        return l >= 0 && l < LINES;
    }

    private static boolean isHour(int h) {
        return h >= 0 && h < HOURS;
    }

    private static boolean areHours(int x, int y) {
        return isHour(x) && isHour(y) && x <= y;
    }

    private static boolean isRate(int r) {
        return r >= 0 && r <= MOST_RATE;
    }

    private static boolean isDayMinute(int minute) {
        return minute >= 0 && minute < DAY;
    }

    private static boolean isMinute(int minute) {
        return minute >= 0 && minute < MINUTES;
    }

    /** A row of bytes: the tape, or FLIGHTS told as a text (219 at most). */
    private static final class Bytes {
        static final int MOST = 320;

        private final byte[] bytes = new byte[MOST];
        int size;

        void append(int sign) {
            if (size >= 0 && size < MOST) {
                bytes[size] = (byte) sign;
                size++;
            }
        }

        void appendFour(int four) {
            append(four >> 24);
            append(four >> 16);
            append(four >> 8);
            append(four);
        }

        /** A number of 1 to 3 digits. */
        void appendNumber(int number) {
            if (number >= 100) {
                append('0' + number / 100);
            }
            if (number >= 10) {
                append('0' + number / 10 % 10);
            }
            append('0' + number % 10);
        }

        int byteAt(int k) {
            return k >= 0 && k < size && k < MOST ? bytes[k] & 255 : NONE;
        }
    }

    /** What was told of each FLIGHT. */
    private static final class Roster {
        final int[] line = new int[MOST_FLIGHTS];
        final int[] eta = new int[MOST_FLIGHTS];
        final int[] time = new int[MOST_FLIGHTS];
        final int[] weight = new int[MOST_FLIGHTS];
        int size;

        boolean isFull() {
            return size >= MOST_FLIGHTS;
        }

        int add(int l, int minute, int way, int w) {
            if (size < 0 || isFull()) {
                return LACKS;
            }
            line[size] = l;
            eta[size] = minute;
            time[size] = way;
            weight[size] = w;
            size++;
            return size - 1;
        }

        boolean sameLine(int f, int g) {
            return has(f) && has(g) && line[f] == line[g];
        }

        private boolean has(int f) {
            return f >= 0 && f < size && f < MOST_FLIGHTS;
        }

        /** As a SCHEDULE without blanks. */
        void writeTo(Bytes text) {
            text.size = 0;
            for (int f = 0; f < size && f < MOST_FLIGHTS; f++) {
                if (f > 0) {
                    text.append(';');
                }
                text.append('a' + line[f]);
                text.appendNumber(eta[f]);
                text.append('/');
                text.appendNumber(time[f]);
                if (weight[f] > 1) {
                    text.append('*');
                    text.appendNumber(weight[f]);
                }
            }
        }

        void copyFrom(Roster other) {
            System.arraycopy(other.line, 0, line, 0, MOST_FLIGHTS);
            System.arraycopy(other.eta, 0, eta, 0, MOST_FLIGHTS);
            System.arraycopy(other.time, 0, time, 0, MOST_FLIGHTS);
            System.arraycopy(other.weight, 0, weight, 0, MOST_FLIGHTS);
            size = other.size;
        }
    }

    /** Reads a SCHEDULE. */
    private static final class Reader {
        private static final int STRANGE = 1;
        private static final int NO_SUCH_NUMBER = 2;
        private static final int TOO_MANY = 3;
        private static final int MOST_DIGITS = 3;

        private int end;
        private int place;
        private int fault;

        /** The tape's first n bytes into a roster: 0, or the FAULT as schedule() answers it. */
        int read(Bytes tape, int n, Roster roster) {
            roster.size = 0;
            end = n;
            place = 0;
            fault = 0;
            // One turn more than there may be FLIGHTS: the last one tells the FAULT of its letter.
            for (int turn = 0; turn <= MOST_FLIGHTS; turn++) {
                readFlight(tape, roster);
                skipBlanks(tape);
                if (fault != 0 || place >= end) {
                    return fault;
                }
                expect(tape, ';');
            }
            return fault;
        }

        private void readFlight(Bytes tape, Roster roster) {
            int l = readLetter(tape, roster.isFull());
            int eta = readNumber(tape, DAY - 1);
            skipBlanks(tape);
            expect(tape, '/');
            int time = readNumber(tape, MOST_TIME);
            int weight = readWeight(tape);
            if (fault == 0) {
                roster.add(l, eta, time, weight);
            }
        }

        private int readLetter(Bytes tape, boolean full) {
            skipBlanks(tape);
            int sign = peek(tape);
            if (sign < 'a' || sign > 'e') {
                fail(STRANGE, place);
            } else if (full) {
                fail(TOO_MANY, place);
            }
            place++;
            return sign - 'a';
        }

        private int readNumber(Bytes tape, int most) {
            skipBlanks(tape);
            int first = place;
            int number = 0;
            for (int k = 0; k < MOST_DIGITS && isDigit(peek(tape)); k++) {
                number = 10 * number + peek(tape) - '0';
                place++;
            }
            // A fourth digit is told ahead of a number that there is not: its digits have not ended there.
            if (place == first || isDigit(peek(tape))) {
                fail(STRANGE, place);
            } else if (number > most) {
                fail(NO_SUCH_NUMBER, first);
            }
            return number;
        }

        private int readWeight(Bytes tape) {
            skipBlanks(tape);
            if (peek(tape) != '*') {
                return 1;
            }
            place++;
            skipBlanks(tape);
            int sign = peek(tape);
            if (!isDigit(sign)) {
                fail(STRANGE, place);
            } else if (sign == '0') {
                fail(NO_SUCH_NUMBER, place);
            }
            place++;
            return sign - '0';
        }

        private void expect(Bytes tape, int sign) {
            if (peek(tape) != sign) {
                fail(STRANGE, place);
            }
            place++;
        }

        private void skipBlanks(Bytes tape) {
            while (place < end && peek(tape) == ' ') {
                place++;
            }
        }

        private int peek(Bytes tape) {
            return place < end ? tape.byteAt(place) : NONE;
        }

        /** Only the first one counts: what is read behind it is of no account. */
        private void fail(int number, int where) {
            if (fault == 0) {
                fault = -1000 * number - where;
            }
        }

        private static boolean isDigit(int sign) {
            return sign >= '0' && sign <= '9';
        }
    }

    /** DRAWS. */
    private static final class Dice {
        int x;

        void start(int seed) {
            x = seed & 65535;
        }

        int roll(int m) {
            x = (25173 * x + 13849) & 65535;
            return m > 0 ? x / 4 % m : 0;
        }
    }

    /** RATES, and the SLOTS that they make. */
    private static final class Rates {
        static final int LATE_SLOTS = (MINUTES - DAY) / LATE_STEP;

        final int[] rate = new int[HOURS];

        Rates() {
            for (int h = 0; h < HOURS; h++) {
                rate[h] = MOST_RATE;
            }
        }

        int of(int h) {
            return isHour(h) ? rate[h] : 0;
        }

        void put(int h, int r) {
            if (isHour(h)) {
                rate[h] = r;
            }
        }

        void putAll(int x, int y, int r) {
            for (int h = Math.max(0, x); h <= y && h < HOURS; h++) {
                rate[h] = r;
            }
        }

        /** SLOT i of an HOUR with RATE r. */
        static int minuteOf(int h, int i, int r) {
            return r > 0 ? HOUR * h + HOUR * i / r : NONE;
        }

        int countSlots() {
            int slots = LATE_SLOTS;
            for (int h = 0; h < HOURS; h++) {
                slots += rate[h];
            }
            return slots;
        }

        int slotMinute(int k) {
            int left = k;
            for (int h = 0; h < HOURS; h++) {
                if (left < rate[h]) {
                    return minuteOf(h, left, rate[h]);
                }
                left -= rate[h];
            }
            return left < LATE_SLOTS ? DAY + LATE_STEP * left : LACKS;
        }

        boolean hasSlot(int minute) {
            if (minute >= DAY) {
                return minute < MINUTES && minute % LATE_STEP == 0;
            }
            int h = minute / HOUR;
            int r = of(h);
            for (int i = 0; i < r; i++) {
                if (minuteOf(h, i, r) == minute) {
                    return true;
                }
            }
            return false;
        }

        void copyFrom(Rates other) {
            System.arraycopy(other.rate, 0, rate, 0, HOURS);
        }
    }

    /** VACANT SLOTS by minutes; each stands for a FLIGHT that was CANCELLED, so there are no more than FLIGHTS. */
    private static final class Vacancies {
        final int[] minute = new int[MOST_FLIGHTS];
        final int[] keeper = new int[MOST_FLIGHTS];
        int size;

        int minuteOf(int k) {
            return has(k) ? minute[k] : NONE;
        }

        int keeperOf(int k) {
            return has(k) ? keeper[k] : NONE;
        }

        int find(int when) {
            for (int k = 0; k < size && k < MOST_FLIGHTS; k++) {
                if (minute[k] == when) {
                    return k;
                }
            }
            return NONE;
        }

        int keptBy(int l) {
            int many = 0;
            for (int k = 0; k < size && k < MOST_FLIGHTS; k++) {
                if (keeper[k] == l) {
                    many++;
                }
            }
            return many;
        }

        void add(int when, int l) {
            if (size < 0 || size >= MOST_FLIGHTS) {
                return;
            }
            int k = size;
            while (k > 0 && minute[k - 1] > when) {
                minute[k] = minute[k - 1];
                keeper[k] = keeper[k - 1];
                k--;
            }
            minute[k] = when;
            keeper[k] = l;
            size++;
        }

        void removeAt(int gone) {
            if (!has(gone)) {
                return;
            }
            for (int k = gone; k + 1 < size && k + 1 < MOST_FLIGHTS; k++) {
                minute[k] = minute[k + 1];
                keeper[k] = keeper[k + 1];
            }
            size--;
        }

        void copyFrom(Vacancies other) {
            System.arraycopy(other.minute, 0, minute, 0, MOST_FLIGHTS);
            System.arraycopy(other.keeper, 0, keeper, 0, MOST_FLIGHTS);
            size = other.size;
        }

        private boolean has(int k) {
            return k >= 0 && k < size && k < MOST_FLIGHTS;
        }
    }

    /** OFFERS: FLIGHT down (a) goes down to minute downTo (x) if FLIGHT up (b) goes up to minute upTo (y). */
    private static final class Offers {
        static final int MOST = 8;

        final int[] down = new int[MOST];
        final int[] downTo = new int[MOST];
        final int[] up = new int[MOST];
        final int[] upTo = new int[MOST];
        private int made;

        boolean has(int i) {
            return i >= 0 && i < MOST && (made & 1 << i) != 0;
        }

        int lowestFree() {
            for (int i = 0; i < MOST; i++) {
                if (!has(i)) {
                    return i;
                }
            }
            return NONE;
        }

        int countMade() {
            return Integer.bitCount(made);
        }

        void put(int i, int a, int x, int b, int y) {
            if (i < 0 || i >= MOST) {
                return;
            }
            made |= 1 << i;
            down[i] = a;
            downTo[i] = x;
            up[i] = b;
            upTo[i] = y;
        }

        void drop(int i) {
            if (has(i)) {
                made &= ~(1 << i);
            }
        }

        void dropAll() {
            made = 0;
        }

        void copyFrom(Offers other) {
            System.arraycopy(other.down, 0, down, 0, MOST);
            System.arraycopy(other.downTo, 0, downTo, 0, MOST);
            System.arraycopy(other.up, 0, up, 0, MOST);
            System.arraycopy(other.upTo, 0, upTo, 0, MOST);
            made = other.made;
        }
    }

    /** LINKS. */
    private static final class Links {
        static final int MOST = 12;

        final int[] from = new int[MOST];
        final int[] onto = new int[MOST];
        final int[] gap = new int[MOST];
        int size;

        boolean has(int i) {
            return i >= 0 && i < size && i < MOST;
        }

        int add(int f, int g, int minutes) {
            if (size < 0 || size >= MOST) {
                return LACKS;
            }
            from[size] = f;
            onto[size] = g;
            gap[size] = minutes;
            size++;
            return size - 1;
        }

        void copyFrom(Links other) {
            System.arraycopy(other.from, 0, from, 0, MOST);
            System.arraycopy(other.onto, 0, onto, 0, MOST);
            System.arraycopy(other.gap, 0, gap, 0, MOST);
            size = other.size;
        }
    }

    /** All that keep() keeps: FLIGHTS, RATES, NOW, the plan, VACANT SLOTS, OFFERS, LINKS. */
    private static final class Field {
        /** Each filling takes a FLIGHT to an earlier one of at most 20 SLOTS, so it ends far below this. */
        private static final int MOST_FILLINGS = 1000;

        final Roster roster = new Roster();
        final Rates rates = new Rates();
        final Vacancies vacancies = new Vacancies();
        final Offers offers = new Offers();
        final Links links = new Links();
        /** The SLOT's minute of each FLIGHT, NONE if it is not planned or CANCELLED. */
        final int[] seat = new int[MOST_FLIGHTS];
        final int[] hold = new int[MOST_FLIGHTS];
        final int[] circles = new int[MOST_FLIGHTS];
        private int cancelledBits;
        int clock;
        boolean planned;

        Field() {
            for (int f = 0; f < MOST_FLIGHTS; f++) {
                seat[f] = NONE;
            }
        }

        void copyFrom(Field other) {
            roster.copyFrom(other.roster);
            rates.copyFrom(other.rates);
            vacancies.copyFrom(other.vacancies);
            offers.copyFrom(other.offers);
            links.copyFrom(other.links);
            System.arraycopy(other.seat, 0, seat, 0, MOST_FLIGHTS);
            System.arraycopy(other.hold, 0, hold, 0, MOST_FLIGHTS);
            System.arraycopy(other.circles, 0, circles, 0, MOST_FLIGHTS);
            cancelledBits = other.cancelledBits;
            clock = other.clock;
            planned = other.planned;
        }

        void takeRoster(Roster other) {
            roster.copyFrom(other);
            clearPlan();
            planned = false;
            links.size = 0;
        }

        void clearPlan() {
            for (int f = 0; f < MOST_FLIGHTS; f++) {
                clearFlight(f);
            }
            cancelledBits = 0;
            clearMarket();
        }

        /** A plan that is made anew or revised leaves neither VACANT SLOTS nor OFFERS. */
        void clearMarket() {
            vacancies.size = 0;
            offers.dropAll();
        }

        private void clearFlight(int f) {
            seat[f] = NONE;
            hold[f] = 0;
            circles[f] = 0;
        }

        // -- one flight

        boolean isFlight(int f) {
            return f >= 0 && f < roster.size && f < MOST_FLIGHTS;
        }

        boolean isOf(int f, int l) {
            return isFlight(f) && roster.line[f] == l;
        }

        int off(int f) {
            return roster.eta[f] - roster.time[f];
        }

        /** OFF and HOLD together. */
        int goesOff(int f) {
            return roster.eta[f] - roster.time[f] + hold[f];
        }

        int earliest(int f) {
            return Math.max(roster.eta[f], clock + roster.time[f]);
        }

        /** Planned and not CANCELLED. */
        boolean isSeated(int f) {
            return f >= 0 && f < MOST_FLIGHTS && seat[f] != NONE;
        }

        boolean isCancelled(int f) {
            return isFlight(f) && (cancelledBits & 1 << f) != 0;
        }

        boolean isAloft(int f) {
            return isSeated(f) && goesOff(f) <= clock;
        }

        /** Planned, not CANCELLED, not IN THE AIR: its SLOT may still be another. */
        boolean isGrounded(int f) {
            return isSeated(f) && goesOff(f) > clock;
        }

        int waitOf(int f) {
            return hold[f] + circles[f];
        }

        int costOf(int f) {
            return roster.weight[f] * (hold[f] + 3 * circles[f]);
        }

        /** COST of a FLIGHT, were its SLOT at a minute and it waited on the ground alone. */
        int costOnGround(int f, int minute) {
            return roster.weight[f] * (minute - roster.eta[f]);
        }

        void seatOnGround(int f, int minute) {
            if (isFlight(f) && minute != NONE) {
                seat[f] = minute;
                hold[f] = minute - roster.eta[f];
                circles[f] = 0;
            }
        }

        void seatInAir(int f, int minute) {
            if (isFlight(f) && minute != NONE) {
                seat[f] = minute;
                circles[f] = minute - roster.eta[f] - hold[f];
            }
        }

        int flightIn(int minute) {
            for (int f = 0; f < MOST_FLIGHTS; f++) {
                if (isSeated(f) && seat[f] == minute) {
                    return f;
                }
            }
            return NONE;
        }

        // -- changes of the plan

        int callOff(int f) {
            if (!isGrounded(f)) {
                return LACKS;
            }
            int minute = seat[f];
            vacancies.add(minute, roster.line[f]);
            clearFlight(f);
            cancelledBits |= 1 << f;
            return minute;
        }

        boolean canSwap(int f, int g) {
            if (f == g || !isGrounded(f) || !isGrounded(g) || !roster.sameLine(f, g)) {
                return false;
            }
            return seat[f] >= earliest(g) && seat[g] >= earliest(f);
        }

        void swap(int f, int g) {
            if (isSeated(f) && isSeated(g)) {
                int minute = seat[f];
                seatOnGround(f, seat[g]);
                seatOnGround(g, minute);
            }
        }

        /** FLIGHT f goes into VACANT SLOT k; who kept that keeps the one that it had. */
        int takeVacancy(int f, int k) {
            int minute = vacancies.minuteOf(k);
            int keeper = vacancies.keeperOf(k);
            if (minute == NONE || !isSeated(f)) {
                return LACKS;
            }
            int left = seat[f];
            vacancies.removeAt(k);
            seatOnGround(f, minute);
            vacancies.add(left, keeper);
            return left;
        }

        int fillVacancies() {
            for (int fillings = 0; fillings < MOST_FILLINGS; fillings++) {
                if (!fillFirst()) {
                    return fillings;
                }
            }
            return MOST_FILLINGS;
        }

        private boolean fillFirst() {
            for (int k = 0; k < vacancies.size; k++) {
                int f = fillerOf(vacancies.minuteOf(k), vacancies.keeperOf(k));
                if (f != NONE) {
                    takeVacancy(f, k);
                    return true;
                }
            }
            return false;
        }

        private int fillerOf(int minute, int keeper) {
            int own = NONE;
            int other = NONE;
            for (int f = 0; f < MOST_FLIGHTS; f++) {
                if (!isGrounded(f) || seat[f] <= minute || earliest(f) > minute) {
                    continue;
                }
                if (roster.line[f] == keeper) {
                    own = earlierSeated(own, f);
                } else {
                    other = earlierSeated(other, f);
                }
            }
            return own != NONE ? own : other;
        }

        private int earlierSeated(int f, int g) {
            return isSeated(f) && isSeated(g) && seat[f] < seat[g] ? f : g;
        }

        // -- deals

        boolean canDeal(int i, int j) {
            return haveUnlikeLines(i, j) && canTrade(i, j) && canTrade(j, i);
        }

        int dealGain(int i, int j) {
            return tradeGain(i, j) + tradeGain(j, i);
        }

        boolean canRound(int i, int j, int k) {
            if (!haveUnlikeLines(i, j) || !haveUnlikeLines(j, k) || !haveUnlikeLines(i, k)) {
                return false;
            }
            return canTrade(i, j) && canTrade(j, k) && canTrade(k, i);
        }

        private boolean haveUnlikeLines(int i, int j) {
            return offers.has(i) && offers.has(j) && !roster.sameLine(offers.down[i], offers.down[j]);
        }

        /** Whether the FLIGHT that goes up of OFFER i and the one that goes down of OFFER j can exchange. */
        private boolean canTrade(int i, int j) {
            int riser = offers.up[i];
            int faller = offers.down[j];
            if (!isGrounded(riser) || !isGrounded(faller)) {
                return false;
            }
            int early = seat[faller];
            int late = seat[riser];
            if (early >= late || early > offers.upTo[i] || early < earliest(riser)) {
                return false;
            }
            return late <= offers.downTo[j] && late >= earliest(faller);
        }

        int tradeGain(int i, int j) {
            if (!offers.has(i) || !offers.has(j)) {
                return 0;
            }
            int riser = offers.up[i];
            int faller = offers.down[j];
            if (!isSeated(riser) || !isSeated(faller)) {
                return 0;
            }
            return (roster.weight[riser] - roster.weight[faller]) * (seat[riser] - seat[faller]);
        }

        void trade(int i, int j) {
            if (offers.has(i) && offers.has(j)) {
                swap(offers.up[i], offers.down[j]);
            }
        }

        // -- lines

        int flightsOf(int l) {
            int many = 0;
            for (int f = 0; f < MOST_FLIGHTS; f++) {
                many += isOf(f, l) ? 1 : 0;
            }
            return many;
        }

        int seatedOf(int l) {
            int many = 0;
            for (int f = 0; f < MOST_FLIGHTS; f++) {
                many += isOf(f, l) && isSeated(f) ? 1 : 0;
            }
            return many;
        }

        int cancelledOf(int l) {
            int many = 0;
            for (int f = 0; f < MOST_FLIGHTS; f++) {
                many += isOf(f, l) && isCancelled(f) ? 1 : 0;
            }
            return many;
        }

        int aloftOf(int l) {
            int many = 0;
            for (int f = 0; f < MOST_FLIGHTS; f++) {
                many += isOf(f, l) && isAloft(f) ? 1 : 0;
            }
            return many;
        }

        int waitsOf(int l) {
            int minutes = 0;
            for (int f = 0; f < MOST_FLIGHTS; f++) {
                minutes += isOf(f, l) && isSeated(f) ? waitOf(f) : 0;
            }
            return minutes;
        }

        int longestWaitOf(int l) {
            int most = 0;
            for (int f = 0; f < MOST_FLIGHTS; f++) {
                if (isOf(f, l) && isSeated(f)) {
                    most = Math.max(most, waitOf(f));
                }
            }
            return most;
        }

        int lineCost(int l) {
            int cost = 0;
            for (int f = 0; f < MOST_FLIGHTS; f++) {
                cost += isOf(f, l) && isSeated(f) ? costOf(f) : 0;
            }
            return cost;
        }

        /** How many LINES wait more for each FLIGHT, or as much and have a lower number. */
        int linesAhead(int l) {
            int waits = waitsOf(l);
            int seated = seatedOf(l);
            int ahead = 0;
            for (int m = 0; m < LINES; m++) {
                int others = seatedOf(m);
                if (m == l || others == 0) {
                    continue;
                }
                int more = waitsOf(m) * seated - waits * others;
                if (more > 0 || (more == 0 && m < l)) {
                    ahead++;
                }
            }
            return ahead;
        }

        int unfairness() {
            int most = NONE;
            int least = NONE;
            for (int l = 0; l < LINES; l++) {
                int seated = seatedOf(l);
                if (seated <= 0) {
                    continue;
                }
                int share = waitsOf(l) * 100 / seated;
                most = most == NONE ? share : Math.max(most, share);
                least = least == NONE ? share : Math.min(least, share);
            }
            return most == NONE ? LACKS : most - least;
        }

        // -- links

        /** How many minutes LINK i lacks: 0 if it holds, LACKS if one of both has no SLOT. */
        int lackOf(int i) {
            if (!links.has(i)) {
                return LACKS;
            }
            int f = links.from[i];
            int g = links.onto[i];
            if (!isSeated(f) || !isSeated(g)) {
                return LACKS;
            }
            return Math.max(0, seat[f] + links.gap[i] - goesOff(g));
        }

        int countBroken() {
            int many = 0;
            for (int i = 0; i < links.size; i++) {
                many += lackOf(i) == 0 ? 0 : 1;
            }
            return many;
        }

        // -- all flights

        int countWaiting() {
            int many = 0;
            for (int f = 0; f < MOST_FLIGHTS; f++) {
                many += isSeated(f) && waitOf(f) > 0 ? 1 : 0;
            }
            return many;
        }

        int countCancelled() {
            return Integer.bitCount(cancelledBits);
        }

        int totalHold() {
            int minutes = 0;
            for (int f = 0; f < MOST_FLIGHTS; f++) {
                minutes += isSeated(f) ? hold[f] : 0;
            }
            return minutes;
        }

        int totalCircles() {
            int minutes = 0;
            for (int f = 0; f < MOST_FLIGHTS; f++) {
                minutes += isSeated(f) ? circles[f] : 0;
            }
            return minutes;
        }

        int totalCost() {
            int cost = 0;
            for (int l = 0; l < LINES; l++) {
                cost += lineCost(l);
            }
            return cost;
        }

        int longestWait() {
            int most = 0;
            for (int l = 0; l < LINES; l++) {
                most = Math.max(most, longestWaitOf(l));
            }
            return most;
        }

        int lastSlot() {
            int last = 0;
            for (int f = 0; f < MOST_FLIGHTS; f++) {
                last = Math.max(last, seat[f]);
            }
            return last;
        }

        int dueIn(int h) {
            int many = 0;
            for (int f = 0; f < MOST_FLIGHTS; f++) {
                many += isFlight(f) && roster.eta[f] / HOUR == h ? 1 : 0;
            }
            return many;
        }

        int seatedIn(int h) {
            int many = 0;
            for (int f = 0; f < MOST_FLIGHTS; f++) {
                many += isSeated(f) && seat[f] / HOUR == h ? 1 : 0;
            }
            return many;
        }

        int underWay(int minute) {
            int bits = 0;
            for (int f = 0; f < MOST_FLIGHTS; f++) {
                if (isSeated(f) && goesOff(f) <= minute && seat[f] > minute) {
                    bits |= 1 << f;
                }
            }
            return bits;
        }

        int landsNext(int minute) {
            int first = NONE;
            for (int f = 0; f < MOST_FLIGHTS; f++) {
                if (isSeated(f) && seat[f] >= minute) {
                    first = earlierSeated(first, f);
                }
            }
            return first == NONE ? LACKS : first;
        }
    }

    /** Gives SLOTS: by a plan anew, or REVISED. */
    private static final class Planner {
        private static final int NUMBER_BITS = 5;
        private static final int NUMBER_MASK = 31;

        /** Who gets a SLOT, in order: each a key, and behind it the FLIGHT's number. */
        private final int[] queue = new int[MOST_FLIGHTS];
        private int queued;
        /** A SLOT is taken if its minute bears the mark of this planning, so none need be wiped. */
        private final int[] marks = new int[MINUTES];
        private int mark;

        void planAnew(Field field, int rule) {
            mark++;
            field.clearPlan();
            queued = 0;
            for (int f = 0; f < MOST_FLIGHTS; f++) {
                if (field.isFlight(f) && field.off(f) <= field.clock) {
                    enqueue(field.roster.eta[f], f);
                }
            }
            seatAirborne(field, 0);
            queued = 0;
            for (int f = 0; f < MOST_FLIGHTS; f++) {
                if (field.isFlight(f) && field.off(f) > field.clock) {
                    enqueue(keyOf(field, f, rule), f);
                }
            }
            seatGrounded(field);
            field.planned = true;
        }

        /** REVISED: how many have another SLOT then. */
        int planOn(Field field) {
            mark++;
            queued = 0;
            for (int f = 0; f < MOST_FLIGHTS; f++) {
                if (!field.isAloft(f)) {
                    continue;
                }
                if (field.seat[f] <= field.clock) {
                    take(field.seat[f]);
                } else {
                    enqueue(field.roster.eta[f] + field.hold[f], f);
                }
            }
            int changed = seatAirborne(field, field.clock + 1);
            queued = 0;
            for (int f = 0; f < MOST_FLIGHTS; f++) {
                if (field.isFlight(f) && !field.isAloft(f) && !field.isCancelled(f)) {
                    enqueue(field.roster.eta[f], f);
                }
            }
            changed += seatGrounded(field);
            field.clearMarket();
            return changed;
        }

        private void enqueue(int key, int f) {
            if (queued < 0 || queued >= MOST_FLIGHTS) {
                return;
            }
            int entry = (key << NUMBER_BITS) + f;
            int k = queued;
            while (k > 0 && queue[k - 1] > entry) {
                queue[k] = queue[k - 1];
                k--;
            }
            queue[k] = entry;
            queued++;
        }

        private int seatAirborne(Field field, int from) {
            int changed = 0;
            for (int k = 0; k < queued && k < MOST_FLIGHTS; k++) {
                int f = queue[k] & NUMBER_MASK;
                if (!field.isFlight(f)) {
                    continue;
                }
                int before = field.seat[f];
                int due = field.roster.eta[f] + field.hold[f];
                field.seatInAir(f, takeFirst(field.rates, Math.max(due, from)));
                changed += field.seat[f] != before ? 1 : 0;
            }
            return changed;
        }

        private int seatGrounded(Field field) {
            int changed = 0;
            for (int k = 0; k < queued && k < MOST_FLIGHTS; k++) {
                int f = queue[k] & NUMBER_MASK;
                if (!field.isFlight(f)) {
                    continue;
                }
                int before = field.seat[f];
                field.seatOnGround(f, takeFirst(field.rates, field.earliest(f)));
                changed += field.seat[f] != before ? 1 : 0;
            }
            return changed;
        }

        private int keyOf(Field field, int f, int rule) {
            int eta = field.roster.eta[f];
            if (rule == BY_WEIGHT) {
                return (MOST_WEIGHT - field.roster.weight[f]) * DAY + eta;
            }
            if (rule == BY_TURNS) {
                return turnOf(field, f) * LINES + field.roster.line[f];
            }
            return eta;
        }

        /** How many of its LINE that are not off come ahead of it: in that turn its LINE gives it. */
        private int turnOf(Field field, int f) {
            int eta = field.roster.eta[f];
            int ahead = 0;
            for (int g = 0; g < MOST_FLIGHTS; g++) {
                if (!field.roster.sameLine(f, g) || field.off(g) <= field.clock) {
                    continue;
                }
                int other = field.roster.eta[g];
                if (other < eta || (other == eta && g < f)) {
                    ahead++;
                }
            }
            return ahead;
        }

        private int takeFirst(Rates rates, int from) {
            int minute = firstFree(rates, from);
            take(minute);
            return minute;
        }

        private int firstFree(Rates rates, int from) {
            for (int h = Math.max(0, from / HOUR); h < HOURS; h++) {
                int r = rates.of(h);
                for (int i = 0; i < r; i++) {
                    int minute = Rates.minuteOf(h, i, r);
                    if (minute >= from && isFree(minute)) {
                        return minute;
                    }
                }
            }
            for (int minute = DAY; minute < MINUTES; minute += LATE_STEP) {
                if (minute >= from && isFree(minute)) {
                    return minute;
                }
            }
            return NONE;
        }

        private boolean isFree(int minute) {
            return isMinute(minute) && marks[minute] != mark;
        }

        private void take(int minute) {
            if (isMinute(minute)) {
                marks[minute] = mark;
            }
        }
    }

    /** A LINE's BEST ORDER. */
    private static final class OrderSearch {
        static final int MOST = 6;

        final int[] flights = new int[MOST];
        /** The minutes of FLIGHTS' SLOTS by the BEST ORDER. */
        final int[] best = new int[MOST];
        int size;
        private final int[] minutes = new int[MOST];
        private final int[] row = new int[MOST];
        private int used;
        private int costNow;
        private int least;

        void solve(Field field, int l) {
            size = 0;
            used = 0;
            costNow = 0;
            least = Integer.MAX_VALUE;
            for (int f = 0; f < MOST_FLIGHTS; f++) {
                if (field.isOf(f, l) && field.isGrounded(f)) {
                    gather(field, f);
                }
            }
            lay(this, field, 0, 0);
        }

        int gain() {
            return costNow - least;
        }

        /** NONE for a FLIGHT that stays. */
        int minuteFor(int f) {
            for (int k = 0; k < size && k < MOST; k++) {
                if (flights[k] == f) {
                    return best[k];
                }
            }
            return NONE;
        }

        private void gather(Field field, int f) {
            if (size < 0 || size >= MOST) {
                return;
            }
            int minute = field.seat[f];
            int k = size;
            while (k > 0 && minutes[k - 1] > minute) {
                minutes[k] = minutes[k - 1];
                k--;
            }
            minutes[k] = minute;
            flights[size] = f;
            costNow += field.costOf(f);
            size++;
        }

        /** Tries rows from the least on, so that of like ones the first that is found is due. */
        private static void lay(OrderSearch search, Field field, int depth, int cost) {
            if (cost >= search.least || depth < 0) {
                return;
            }
            if (depth >= search.size || depth >= MOST) {
                search.least = cost;
                System.arraycopy(search.row, 0, search.best, 0, MOST);
                return;
            }
            int f = search.flights[depth];
            for (int k = 0; k < search.size && k < MOST; k++) {
                int bit = 1 << k;
                int minute = search.minutes[k];
                if ((search.used & bit) != 0 || minute < field.earliest(f)) {
                    continue;
                }
                search.row[depth] = minute;
                search.used |= bit;
                lay(search, field, depth + 1, cost + field.costOnGround(f, minute));
                search.used &= ~bit;
            }
        }
    }
}
