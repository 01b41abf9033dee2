import java.util.Arrays;

/** Inns whose tables remember who sat. DOC.md says what each call answers; README.md how to use it. */
public final class GrainInn {
    public static final int NONE = -1;

    private static final int NO_SUCH = -2;
    private static final int NO_SUM = -1000000;

    private static final int TAPE_MOST = 600;
    private static final int FED_BYTES = 20;
    private static final int TABLES_MOST = 5;
    private static final int SEATS_MOST = 8;
    private static final int KEEPS_MOST = 6;
    private static final int PRICE_MOST = 9;
    private static final int GUESTS_MOST = 8;
    private static final int GUESTS_AT_FIRST = 4;
    private static final int WORDS = 10;
    private static final int DEEDS_MOST = 40;
    private static final int WISHES_MOST = 10;
    private static final int ROWS_MOST = 7;
    private static final int SEATED_MOST = 6;
    private static final int SPY_NIGHTS = 4;
    private static final int DRAWN_NIGHTS = 40;
    private static final int IMAGES = 3;
    private static final int BITS = 31;

    private static final int SORTS = 4;
    private static final int OF_A_SORT = 2;
    private static final int INNS = 0;
    private static final int EVENINGS = 1;
    private static final int WISHES = 2;
    private static final int HEARINGS = 3;

    private static final int TABLE = 0;
    private static final int GUESTS = 1;
    private static final int QUARREL = 2;
    private static final int LOVE = 3;

    private static final int SIT = 0;
    private static final int SAY = 1;
    private static final int NIGHT = 2;
    private static final int SCRUB = 3;
    private static final int JOIN = 4;
    private static final int SPLIT = 5;

    private static final int HEAR = 0;
    private static final int SHUN = 1;
    private static final int APART = 2;
    private static final int BESIDE = 3;

    private static final int HEARD = 0;
    private static final int SILENCE = 1;

    private static final int FAULT_FORM = 1;
    private static final int FAULT_NUMBER = 2;
    private static final int FAULT_MANY = 3;
    private static final int FAULT_GUEST = 4;

    private final Told told = new Told();
    private final Told[] images = new Told[IMAGES];
    private final boolean[] taken = new boolean[IMAGES];
    private final Reader reader = new Reader(told.tape);
    private final State reached = new State();
    private final Rounds rounds = new Rounds();
    private final Seating seating = new Seating();
    private final Weddings altar = new Weddings();
    private final Parting parting = new Parting();

    public GrainInn() {
        for (int k = 0; k < images.length; k++) {
            images[k] = new Told();
        }
    }

    public int feed(int a, int b, int c, int d, int e) {
        return told.tape.takeFive(a, b, c, d, e);
    }

    public int end(int n) {
        return told.tape.cutTo(n);
    }

    public int text(int sort, int at) {
        int answer = NO_SUCH;
        if (told.hasPlace(sort, at)) {
            reader.read(sort);
            told.setFault(reader.fault, reader.place);
            answer = reader.fault == 0 ? told.keep(sort, at, reader) : NONE;
        } else {
            told.setFault(0, NONE);
        }
        told.tape.cutTo(0);
        return answer;
    }

    public int fault(int what) {
        if (what == 0) {
            return told.fault;
        }
        return what == 1 ? told.place : NONE;
    }

    public int inn(int inn, int what) {
        House house = told.innAt(inn);
        if (house == null) {
            return NONE;
        }
        if (what == 0) {
            return house.tables;
        }
        if (what == 1) {
            return house.guests;
        }
        if (isOf(what, 10, house.tables)) {
            return house.seatsOf(what - 10);
        }
        if (isOf(what, 20, house.tables)) {
            return house.keepsOf(what - 20);
        }
        if (isOf(what, 30, house.tables)) {
            return house.priceOf(what - 30);
        }
        if (isOf(what, 40, house.guests)) {
            return house.quarrelsOf(what - 40);
        }
        return isOf(what, 50, house.guests) ? house.lovesOf(what - 50) : NONE;
    }

    public int deed(int evenings, int k, int what) {
        return lineOf(told.linesAt(EVENINGS, evenings), k, what);
    }

    public int stop(int inn, int evenings) {
        House house = told.innAt(inn);
        Lines deeds = told.linesAt(EVENINGS, evenings);
        if (house == null || deeds == null) {
            return NONE;
        }
        return follow(house, deeds, deeds.size);
    }

    public int state(int inn, int evenings, int n, int what) {
        State state = reach(inn, evenings, n);
        if (state == null) {
            return NO_SUCH;
        }
        switch (what) {
            case 0:
                return state.nights;
            case 1:
                return state.strife;
            case 2:
                return state.joy;
            case 3:
                return state.paidByAll();
            case 4:
                return state.seated();
            default:
                return benchFact(state, what);
        }
    }

    public int guest(int inn, int evenings, int n, int guest, int what) {
        State state = reach(inn, evenings, n);
        if (state == null || !state.house.hasGuest(guest)) {
            return NO_SUM;
        }
        switch (what) {
            case 0:
                return state.heardBy(guest);
            case 1:
                return state.paidBy(guest);
            case 2:
                return state.tableOf(guest);
            case 3:
                return state.netOf(guest);
            case 4:
                state.followDebts(guest);
                return state.chainLength;
            case 5:
                state.followDebts(guest);
                return state.chainLast;
            default:
                return isOf(what, 10, state.house.guests) ? state.debtOf(guest, what - 10) : NO_SUM;
        }
    }

    public int past(int inn, int evenings, int n, int table, int k, int what) {
        State state = reach(inn, evenings, n);
        Bench bench = state == null ? null : state.benchAt(table);
        if (bench == null || k < 0 || k >= bench.size) {
            return NONE;
        }
        switch (what) {
            case 0:
                return bench.guestsOf(k);
            case 1:
                return bench.wordsOf(k);
            case 2:
                return bench.nightOf(k);
            default:
                return NONE;
        }
    }

    public int wish(int wishes, int k, int what) {
        return lineOf(told.linesAt(WISHES, wishes), k, what);
    }

    public int seats(int inn, int evenings, int n, int wishes, int what) {
        State state = reach(inn, evenings, n);
        Lines wished = told.linesAt(WISHES, wishes);
        if (state == null || wished == null) {
            return NONE;
        }
        if (state.seated() != 0 || state.house.guests > SEATED_MOST) {
            return NONE;
        }
        seating.search(state, wished);
        if (what == 2) {
            return seating.ways;
        }
        if (seating.ways == 0) {
            return NONE;
        }
        if (what == 0) {
            return seating.leastHarm;
        }
        if (what == 1) {
            return seating.leastPaid;
        }
        return isOf(what, 10, state.house.guests) ? seating.bestTableOf(what - 10) : NONE;
    }

    public int comes(int inn, int evenings, int n, int table, int word, int what) {
        State state = reach(inn, evenings, n);
        if (state == null || !state.house.hasTable(table) || !isOf(word, 0, WORDS)) {
            return NONE;
        }
        rounds.awaitWord(state, table, word);
        switch (what) {
            case 0:
                return rounds.first;
            case 1:
                return rounds.last;
            case 2:
                return rounds.often;
            default:
                return NONE;
        }
    }

    public int cuts(int inn, int evenings, int n, int table, int what) {
        State state = reach(inn, evenings, n);
        Bench bench = state == null ? null : state.benchAt(table);
        if (bench == null) {
            return NONE;
        }
        switch (what) {
            case 0:
                return parting.fewestCuts(state.house, bench);
            case 1:
                return Integer.bitCount(parting.leastForgotten(state.house, bench));
            case 2:
                return parting.leastForgotten(state.house, bench);
            default:
                return NONE;
        }
    }

    public int heard(int hearing, int k) {
        Lines rows = told.linesAt(HEARINGS, hearing);
        if (rows == null) {
            return NO_SUCH;
        }
        if (k == NONE) {
            return rows.size;
        }
        return rows.has(k) ? rows.firstOf(k) : NO_SUCH;
    }

    public int fits(int inn, int hearing, int table, int what) {
        House house = told.innAt(inn);
        Lines rows = told.linesAt(HEARINGS, hearing);
        if (house == null || rows == null || !house.hasTable(table)) {
            return NONE;
        }
        rounds.listen(house, rows, table);
        if (what == 0) {
            return rounds.fittingRows(house.guests, rows.size);
        }
        if (what == 1) {
            return rounds.tellable(house.guests);
        }
        return isOf(what, 10, rows.size) ? rounds.sureOf(what - 10, house.guests) : NONE;
    }

    public int gain(int inn, int evenings, int n, int one, int two, int a, int b) {
        State state = reach(inn, evenings, n);
        if (state == null || !state.house.hasCouple(one, two)) {
            return NO_SUM;
        }
        if (!state.house.hasTable(a) || !state.house.hasTable(b)) {
            return NO_SUM;
        }
        return state.gainOf(one, two, a, b);
    }

    public int rest(int inn, int evenings, int n, int one, int two, int k) {
        State state = reach(inn, evenings, n);
        if (state == null || !state.house.hasCouple(one, two)) {
            return NONE;
        }
        int tables = state.house.tables;
        int found = 0;
        for (int a = 0; a < tables; a++) {
            for (int b = 0; b < tables; b++) {
                if (state.isRest(one, two, a, b)) {
                    if (found == k) {
                        return tables * a + b;
                    }
                    found++;
                }
            }
        }
        return k == NONE ? found : NONE;
    }

    public int whisper(int inn, int evenings, int n, int word, boolean table) {
        State state = reach(inn, evenings, n);
        if (state == null || !isOf(word, 0, WORDS)) {
            return NONE;
        }
        int fewest = NONE;
        int where = NONE;
        for (int t = 0; t < state.house.tables; t++) {
            rounds.awaitWord(state, t, word);
            if (rounds.first != NONE && (fewest == NONE || rounds.first < fewest)) {
                fewest = rounds.first;
                where = t;
            }
        }
        return table ? where : fewest;
    }

    public int council(int inn, boolean split) {
        House house = told.innAt(inn);
        if (house == null) {
            return NONE;
        }
        return split ? parting.fewestTables(house) : parting.greatestPeace(house);
    }

    public int drawn(int inn, int seed, int nights, int what) {
        House house = told.innAt(inn);
        if (house == null || house.tables == 0 || nights < 1 || nights > DRAWN_NIGHTS) {
            return NO_SUCH;
        }
        int unseated = reached.draw(house, seed, nights);
        switch (what) {
            case 0:
                return reached.strife;
            case 1:
                return reached.joy;
            case 2:
                return reached.paidByAll();
            case 3:
                return unseated;
            default:
                return drawnFact(reached, what);
        }
    }

    public int met(int inn, int evenings, int n, int guest, int other) {
        State state = reach(inn, evenings, n);
        if (state == null || !state.house.hasGuest(guest)) {
            return NO_SUCH;
        }
        if (other == NONE) {
            return state.metBy(guest);
        }
        return state.house.hasGuest(other) ? state.gossip(guest, other) : NO_SUCH;
    }

    public int ghosts(int inn, int evenings, int n, int what) {
        State state = reach(inn, evenings, n);
        if (state == null) {
            return NO_SUCH;
        }
        int who = state.mostSeen();
        int where = state.mostCrowded();
        switch (what) {
            case 0:
                return who;
            case 1:
                return who == NONE ? NONE : state.pastsOf(who);
            case 2:
                return where;
            case 3:
                return where == NONE ? NONE : state.crowdAt(where);
            default:
                return NO_SUCH;
        }
    }

    public int forgets(int inn, int evenings, int n, int table, int guest) {
        State state = reach(inn, evenings, n);
        if (state == null || !state.house.hasTable(table) || !state.house.hasGuest(guest)) {
            return NONE;
        }
        return rounds.untilForgotten(state, table, guest);
    }

    public int spy(int inn, int evenings, int n, int words, int what) {
        State state = reach(inn, evenings, n);
        if (state == null || state.seated() != 0 || !isOf(words, 0, 1 << WORDS)) {
            return NONE;
        }
        int nights = rounds.spyOut(state, words);
        if (what == 0) {
            return nights;
        }
        return isOf(what, 10, nights) ? rounds.spiedTable(what - 10) : NONE;
    }

    public int weddings(int inn, int evenings, int n, int what) {
        State state = reach(inn, evenings, n);
        if (state == null) {
            return NO_SUCH;
        }
        altar.search(state);
        if (what == 0) {
            return altar.most;
        }
        return isOf(what, 10, state.house.tables) ? altar.coupleAt(what - 10) : NO_SUCH;
    }

    public int count(int sort) {
        return isOf(sort, 0, SORTS) ? told.countOf(sort) : NO_SUCH;
    }

    public boolean image(int k) {
        if (k < 0 || k >= images.length) {
            return false;
        }
        images[k].copyFrom(told);
        taken[k] = true;
        return true;
    }

    public boolean again(int k) {
        if (k < 0 || k >= images.length || !taken[k]) {
            return false;
        }
        told.copyFrom(images[k]);
        return true;
    }

    /** Whether a number is one of so many from a first one on. */
    private static boolean isOf(int number, int from, int many) {
        return number >= from && number - from < many;
    }

    private static boolean isIn(int bits, int place) {
        return place >= 0 && place < BITS && (bits >> place & 1) != 0;
    }

    private static int limitOf(int sort) {
        switch (sort) {
            case EVENINGS:
                return DEEDS_MOST;
            case WISHES:
                return WISHES_MOST;
            default:
                return ROWS_MOST;
        }
    }

    private static int lineOf(Lines lines, int k, int what) {
        if (lines == null) {
            return NO_SUCH;
        }
        if (k == NONE) {
            return what == 0 ? lines.size : NO_SUCH;
        }
        if (!lines.has(k)) {
            return NO_SUCH;
        }
        switch (what) {
            case 0:
                return lines.kindOf(k);
            case 1:
                return lines.firstOf(k);
            case 2:
                return lines.secondOf(k);
            default:
                return NO_SUCH;
        }
    }

    private static int benchFact(State state, int what) {
        int tables = state.house.tables;
        Bench bench = null;
        if (isOf(what, 10, tables)) {
            bench = state.benchAt(what - 10);
            return bench == null ? NO_SUCH : bench.size;
        }
        if (isOf(what, 20, tables)) {
            bench = state.benchAt(what - 20);
            return bench == null ? NO_SUCH : bench.turn;
        }
        if (isOf(what, 30, tables)) {
            bench = state.benchAt(what - 30);
        }
        return bench == null ? NO_SUCH : bench.sitting;
    }

    private static int drawnFact(State state, int what) {
        Bench bench = null;
        if (isOf(what, 10, state.house.guests)) {
            return state.heardBy(what - 10);
        }
        if (isOf(what, 20, state.house.tables)) {
            bench = state.benchAt(what - 20);
            return bench == null ? NO_SUCH : bench.guestsOf(bench.size - 1);
        }
        if (isOf(what, 30, state.house.tables)) {
            bench = state.benchAt(what - 30);
        }
        return bench == null ? NO_SUCH : bench.turn;
    }

    /** How many of the first deeds could be followed, up to a limit; the state behind them stands in reached. */
    private int follow(House house, Lines deeds, int limit) {
        reached.begin(house);
        int done = 0;
        while (done < limit && done < deeds.size && reached.follows(deeds, done)) {
            done++;
        }
        return done;
    }

    private State reach(int inn, int evenings, int n) {
        House house = told.innAt(inn);
        Lines deeds = told.linesAt(EVENINGS, evenings);
        if (house == null || deeds == null || n < 0 || n > deeds.size) {
            return null;
        }
        return follow(house, deeds, n) == n ? reached : null;
    }

    private static final class Tape {
        private final int[] bytes = new int[TAPE_MOST];
        private int length = 0;

        int takeFive(int a, int b, int c, int d, int e) {
            if (length > bytes.length - FED_BYTES) {
                return NONE;
            }
            takeOne(a);
            takeOne(b);
            takeOne(c);
            takeOne(d);
            takeOne(e);
            return length;
        }

        private void takeOne(int number) {
            for (int shift = 24; shift >= 0 && length < bytes.length; shift -= 8) {
                bytes[length] = number >>> shift & 255;
                length++;
            }
        }

        int cutTo(int n) {
            if (n < 0 || n > length) {
                return NONE;
            }
            length = n;
            return n;
        }

        int byteAt(int at) {
            return at >= 0 && at < length && at < bytes.length ? bytes[at] : NONE;
        }

        void copyFrom(Tape other) {
            length = other.length;
            System.arraycopy(other.bytes, 0, bytes, 0, bytes.length);
        }
    }

    /** An INN. */
    private static final class House {
        private final int[] seats = new int[TABLES_MOST];
        private final int[] keeps = new int[TABLES_MOST];
        private final int[] prices = new int[TABLES_MOST];
        private final int[] quarrels = new int[GUESTS_MOST];
        private final int[] loves = new int[GUESTS_MOST];
        private int tables = 0;
        private int guests = GUESTS_AT_FIRST;

        void clear() {
            tables = 0;
            guests = GUESTS_AT_FIRST;
            Arrays.fill(quarrels, 0);
            Arrays.fill(loves, 0);
        }

        void copyFrom(House other) {
            tables = other.tables;
            guests = other.guests;
            System.arraycopy(other.seats, 0, seats, 0, TABLES_MOST);
            System.arraycopy(other.keeps, 0, keeps, 0, TABLES_MOST);
            System.arraycopy(other.prices, 0, prices, 0, TABLES_MOST);
            System.arraycopy(other.quarrels, 0, quarrels, 0, GUESTS_MOST);
            System.arraycopy(other.loves, 0, loves, 0, GUESTS_MOST);
        }

        void addTable(int seatsThere, int keepsThere, int priceThere) {
            if (tables < TABLES_MOST) {
                seats[tables] = seatsThere;
                keeps[tables] = keepsThere;
                prices[tables] = priceThere;
                tables++;
            }
        }

        void addCouple(int kind, int one, int two) {
            if (isOf(one, 0, GUESTS_MOST) && isOf(two, 0, GUESTS_MOST)) {
                int[] bits = kind == LOVE ? loves : quarrels;
                bits[one] |= 1 << two;
                bits[two] |= 1 << one;
            }
        }

        boolean hasTable(int table) {
            return table >= 0 && table < tables;
        }

        boolean hasGuest(int guest) {
            return guest >= 0 && guest < guests;
        }

        boolean hasAll(int who) {
            return who >> guests == 0;
        }

        boolean hasCouple(int one, int two) {
            return hasGuest(one) && hasGuest(two) && one != two;
        }

        int seatsOf(int table) {
            return hasTable(table) ? seats[table] : 0;
        }

        int keepsOf(int table) {
            return hasTable(table) ? keeps[table] : 0;
        }

        int priceOf(int table) {
            return hasTable(table) ? prices[table] : 0;
        }

        int quarrelsOf(int guest) {
            return hasGuest(guest) ? quarrels[guest] : 0;
        }

        int lovesOf(int guest) {
            return hasGuest(guest) ? loves[guest] : 0;
        }

        int strifeOf(int some, int others) {
            return couplesOf(quarrels, some, others);
        }

        int joyOf(int some, int others) {
            return couplesOf(loves, some, others);
        }

        /** Of one of some and one of the others; who are in both make a couple twice, once each way. */
        private static int couplesOf(int[] bits, int some, int others) {
            int sum = 0;
            for (int g = 0; g < bits.length; g++) {
                if ((some >> g & 1) != 0) {
                    sum += Integer.bitCount(bits[g] & others);
                }
            }
            return sum;
        }

        boolean isPeaceful(int who) {
            return strifeOf(who, who) == 0;
        }
    }

    /** DEEDS, WISHES or ROWS: each a kind and up to two numbers. */
    private static final class Lines {
        private final int[] kinds;
        private final int[] firsts;
        private final int[] seconds;
        private int size = 0;

        Lines(int most) {
            kinds = new int[Math.max(0, most)];
            firsts = new int[Math.max(0, most)];
            seconds = new int[Math.max(0, most)];
        }

        void clear() {
            size = 0;
        }

        void add(int kind, int first, int second) {
            if (size < kinds.length) {
                kinds[size] = kind;
                firsts[size] = first;
                seconds[size] = second;
                size++;
            }
        }

        void copyFrom(Lines other) {
            clear();
            for (int k = 0; k < other.size; k++) {
                add(other.kindOf(k), other.firstOf(k), other.secondOf(k));
            }
        }

        boolean has(int k) {
            return k >= 0 && k < size;
        }

        int kindOf(int k) {
            return has(k) ? kinds[k] : NONE;
        }

        int firstOf(int k) {
            return has(k) ? firsts[k] : NONE;
        }

        int secondOf(int k) {
            return has(k) ? seconds[k] : NONE;
        }
    }

    /** All that is told: what an image has to keep. */
    private static final class Told {
        private final Tape tape = new Tape();
        private final House[] inns = new House[OF_A_SORT];
        private final Lines[] lines = new Lines[SORTS * OF_A_SORT];
        private final int[] counts = new int[SORTS];
        private int fault = 0;
        private int place = NONE;

        Told() {
            for (int k = 0; k < inns.length; k++) {
                inns[k] = new House();
            }
            for (int k = OF_A_SORT; k < lines.length; k++) {
                lines[k] = new Lines(limitOf(k / OF_A_SORT));
            }
        }

        void copyFrom(Told other) {
            tape.copyFrom(other.tape);
            fault = other.fault;
            place = other.place;
            System.arraycopy(other.counts, 0, counts, 0, SORTS);
            for (int k = 0; k < inns.length; k++) {
                inns[k].copyFrom(other.inns[k]);
            }
            for (int k = OF_A_SORT; k < lines.length; k++) {
                lines[k].copyFrom(other.lines[k]);
            }
        }

        void setFault(int newFault, int newPlace) {
            fault = newFault;
            place = newPlace;
        }

        int countOf(int sort) {
            return isOf(sort, 0, SORTS) ? counts[sort] : 0;
        }

        boolean has(int sort, int at) {
            return at >= 0 && at < OF_A_SORT && at < countOf(sort);
        }

        House innAt(int at) {
            return has(INNS, at) ? inns[at] : null;
        }

        Lines linesAt(int sort, int at) {
            return sort != INNS && has(sort, at) ? lines[OF_A_SORT * sort + at] : null;
        }

        boolean hasPlace(int sort, int at) {
            if (at == NONE) {
                return isOf(sort, 0, SORTS) && countOf(sort) < OF_A_SORT;
            }
            return has(sort, at);
        }

        int keep(int sort, int at, Reader reader) {
            if (!hasPlace(sort, at)) {
                return NO_SUCH;
            }
            int where = at;
            if (at == NONE) {
                where = counts[sort];
                counts[sort]++;
            }
            House house = innAt(where);
            Lines row = linesAt(sort, where);
            if (row != null) {
                row.copyFrom(reader.lines);
            } else if (house != null) {
                house.copyFrom(reader.house);
            }
            return where;
        }
    }

    /** Reads a tape, token by token, into a house or lines of its own. */
    private static final class Reader {
        private static final int AT_END = 0;
        private static final int WORD = 1;
        private static final int NUMBER = 2;
        private static final int SEMICOLON = 3;
        private static final int NO_TOKEN = 4;
        private static final int DIGITS_MOST = 2;

        private final House house = new House();
        private final Lines lines = new Lines(DEEDS_MOST);
        private final Tape tape;
        private int fault = 0;
        private int place = NONE;
        private int token = AT_END;
        private int start = 0;
        private int stop = 0;
        private int toldGuests = 0;

        Reader(Tape of) {
            tape = of;
        }

        void read(int sort) {
            fault = 0;
            place = NONE;
            stop = 0;
            toldGuests = 0;
            house.clear();
            lines.clear();
            step();
            for (int line = 0; line <= TAPE_MOST && token != AT_END && fault != FAULT_FORM; line++) {
                readLine(sort);
            }
            if (!house.hasAll(toldGuests)) {
                note(FAULT_GUEST, tape.length);
            }
        }

        private void step() {
            start = stop;
            while (start < tape.length && isBlank(tape.byteAt(start))) {
                start++;
            }
            int sign = tape.byteAt(start);
            stop = start;
            if (start >= tape.length) {
                token = AT_END;
            } else if (isLetter(sign)) {
                token = WORD;
                while (stop < tape.length && isLetter(tape.byteAt(stop))) {
                    stop++;
                }
            } else if (isDigit(sign)) {
                while (stop < tape.length && isDigit(tape.byteAt(stop))) {
                    stop++;
                }
                token = stop - start <= DIGITS_MOST ? NUMBER : NO_TOKEN;
            } else {
                token = sign == ';' ? SEMICOLON : NO_TOKEN;
                stop++;
            }
        }

        private static boolean isBlank(int sign) {
            return sign == 10 || sign == 32;
        }

        private static boolean isLetter(int sign) {
            return sign >= 'a' && sign <= 'z';
        }

        private static boolean isDigit(int sign) {
            return sign >= '0' && sign <= '9';
        }

        /** The first one noted counts: tokens are read in the order of their places. */
        private void note(int newFault, int newPlace) {
            if (fault == 0) {
                fault = newFault;
                place = newPlace;
            }
        }

        /** A fault of form goes before all others, wherever they are. */
        private void breakOff() {
            if (fault != FAULT_FORM) {
                fault = FAULT_FORM;
                place = start;
            }
        }

        private void readLine(int sort) {
            int word = token == WORD ? keyword(sort) : NONE;
            if (word == NONE) {
                breakOff();
                return;
            }
            if (sort == INNS ? word == TABLE && house.tables == TABLES_MOST : lines.size >= limitOf(sort)) {
                note(FAULT_MANY, start);
            }
            step();
            switch (sort) {
                case INNS:
                    readInnLine(word);
                    break;
                case EVENINGS:
                    readDeed(word);
                    break;
                case WISHES:
                    readWish(word);
                    break;
                default:
                    lines.add(word, word == HEARD ? number(0, GUESTS_MOST - 1, 0) : NONE, NONE);
                    break;
            }
            if (token == SEMICOLON) {
                step();
            } else {
                breakOff();
            }
        }

        private int keyword(int sort) {
            switch (sort) {
                case INNS:
                    return spells("table") ? TABLE : spells("guests") ? GUESTS
                            : spells("quarrel") ? QUARREL : spells("love") ? LOVE : NONE;
                case EVENINGS:
                    return spells("sit") ? SIT : spells("say") ? SAY : spells("night") ? NIGHT
                            : spells("scrub") ? SCRUB : spells("join") ? JOIN : spells("split") ? SPLIT : NONE;
                case WISHES:
                    return spells("hear") ? HEAR : spells("shun") ? SHUN
                            : spells("apart") ? APART : spells("beside") ? BESIDE : NONE;
                default:
                    return spells("heard") ? HEARD : spells("silence") ? SILENCE : NONE;
            }
        }

        private boolean spells(String word) {
            if (stop - start != word.length()) {
                return false;
            }
            for (int i = 0; i < word.length(); i++) {
                if (tape.byteAt(start + i) != word.charAt(i)) {
                    return false;
                }
            }
            return true;
        }

        private void readInnLine(int word) {
            if (word == TABLE) {
                int seats = number(1, SEATS_MOST, 0);
                int keeps = number(1, KEEPS_MOST, 0);
                int price = number(0, PRICE_MOST, 0);
                house.addTable(seats, keeps, price);
            } else if (word == GUESTS) {
                house.guests = number(1, GUESTS_MOST, 0);
            } else {
                int one = number(0, GUESTS_MOST - 1, 0);
                int two = number(0, GUESTS_MOST - 1, 1 << one);
                house.addCouple(word, one, two);
                toldGuests |= 1 << one | 1 << two;
            }
        }

        private void readDeed(int word) {
            int one = NONE;
            int two = NONE;
            switch (word) {
                case SIT:
                    one = number(0, TABLES_MOST - 1, 0);
                    two = 1 << number(0, GUESTS_MOST - 1, 0);
                    for (int more = 0; more < TAPE_MOST && token == NUMBER; more++) {
                        two |= 1 << number(0, GUESTS_MOST - 1, two);
                    }
                    break;
                case SAY:
                    one = number(0, GUESTS_MOST - 1, 0);
                    two = number(0, WORDS - 1, 0);
                    break;
                case SCRUB:
                    one = number(0, TABLES_MOST - 1, 0);
                    break;
                case JOIN:
                case SPLIT:
                    one = number(0, TABLES_MOST - 1, 0);
                    two = number(0, TABLES_MOST - 1, 1 << one);
                    break;
                default:
                    break;
            }
            lines.add(word, one, two);
        }

        private void readWish(int word) {
            int one = number(0, GUESTS_MOST - 1, 0);
            int two = word == HEAR || word == SHUN
                    ? number(0, WORDS - 1, 0) : number(0, GUESTS_MOST - 1, 1 << one);
            lines.add(word, one, two);
        }

        /** The number told; the least one instead of one that can't be, for what is kept must not go beyond. */
        private int number(int least, int most, int barred) {
            if (token != NUMBER || fault == FAULT_FORM) {
                breakOff();
                return least;
            }
            int value = 0;
            for (int at = start; at < stop; at++) {
                value = 10 * value + tape.byteAt(at) - '0';
            }
            if (value < least || value > most) {
                note(FAULT_NUMBER, start);
                value = least;
            } else if (isIn(barred, value)) {
                note(FAULT_NUMBER, start);
            }
            step();
            return value;
        }
    }

    /** A TABLE with its PASTS, and who sits there now. */
    private static final class Bench {
        /** A join puts two full rows together before it forgets. */
        private static final int PASTS_MOST = 2 * KEEPS_MOST;

        private final int[] guests = new int[PASTS_MOST];
        private final int[] words = new int[PASTS_MOST];
        private final int[] nights = new int[PASTS_MOST];
        private int size = 0;
        private int turn = 0;
        private int sitting = 0;
        private int said = 0;

        void clear() {
            size = 0;
            turn = 0;
            sitting = 0;
            said = 0;
        }

        void copyFrom(Bench other) {
            clear();
            for (int k = 0; k < other.size; k++) {
                append(other.guestsOf(k), other.wordsOf(k), other.nightOf(k));
            }
            turn = other.turn;
            sitting = other.sitting;
            said = other.said;
        }

        int guestsOf(int k) {
            return k >= 0 && k < size ? guests[k] : 0;
        }

        int wordsOf(int k) {
            return k >= 0 && k < size ? words[k] : 0;
        }

        int nightOf(int k) {
            return k >= 0 && k < size ? nights[k] : NONE;
        }

        int allGuests() {
            int all = 0;
            for (int k = 0; k < size; k++) {
                all |= guests[k];
            }
            return all;
        }

        void append(int who, int what, int night) {
            if (size < PASTS_MOST) {
                guests[size] = who;
                words[size] = what;
                nights[size] = night;
                size++;
            }
        }

        void turnOn() {
            turn = turn + 1 < size ? turn + 1 : 0;
        }

        void forgetFirst(int many) {
            if (many <= 0 || many > size) {
                return;
            }
            for (int k = many; k < size; k++) {
                guests[k - many] = guests[k];
                words[k - many] = words[k];
                nights[k - many] = nights[k];
            }
            size -= many;
            turn = Math.max(0, turn - many);
        }

        void endNight(int night, int keeps) {
            if (sitting != 0) {
                append(sitting, said, night);
                forgetFirst(size - keeps);
            }
            sitting = 0;
            said = 0;
        }

        /** A sitting of a stranger who says nothing, and its night. */
        void sitQuietly(int night, int keeps) {
            turnOn();
            append(0, 0, night);
            forgetFirst(size - keeps);
        }

        void forgetLastButOne() {
            if (size < 2) {
                return;
            }
            int gone = size - 2;
            guests[gone] = guests[gone + 1];
            words[gone] = words[gone + 1];
            nights[gone] = nights[gone + 1];
            size--;
            if (turn > gone) {
                turn--;
            }
            if (turn >= size) {
                turn = 0;
            }
        }
    }

    /** A STATE of an INN, deed by deed. */
    private static final class State {
        private final Bench[] benches = new Bench[TABLES_MOST];
        private final int[] heard = new int[GUESTS_MOST];
        private final int[] paid = new int[GUESTS_MOST];
        private final int[] met = new int[GUESTS_MOST];
        private final int[] debts = new int[GUESTS_MOST * GUESTS_MOST];
        private final int[] drew = new int[TABLES_MOST];
        private House house = new House();
        private int nights = 0;
        private int strife = 0;
        private int joy = 0;
        private int chainLength = 0;
        private int chainLast = NONE;

        State() {
            for (int t = 0; t < benches.length; t++) {
                benches[t] = new Bench();
            }
        }

        void begin(House of) {
            house = of;
            nights = 0;
            strife = 0;
            joy = 0;
            Arrays.fill(heard, 0);
            Arrays.fill(paid, 0);
            Arrays.fill(met, 0);
            Arrays.fill(debts, 0);
            for (int t = 0; t < benches.length; t++) {
                benches[t].clear();
            }
        }

        Bench benchAt(int table) {
            return house.hasTable(table) && table < benches.length ? benches[table] : null;
        }

        int seated() {
            int who = 0;
            for (int t = 0; t < benches.length; t++) {
                who |= benches[t].sitting;
            }
            return who;
        }

        int tableOf(int guest) {
            for (int t = 0; t < benches.length; t++) {
                if (isIn(benches[t].sitting, guest)) {
                    return t;
                }
            }
            return NONE;
        }

        /** Whether a deed can be; if so, it is done. */
        boolean follows(Lines deeds, int k) {
            int one = deeds.firstOf(k);
            int two = deeds.secondOf(k);
            switch (deeds.kindOf(k)) {
                case SIT:
                    return sitDown(one, two);
                case SAY:
                    return speak(one, two);
                case NIGHT:
                    endNight();
                    return true;
                case SCRUB:
                    return scrubAt(one);
                case JOIN:
                    return joinTo(one, two);
                case SPLIT:
                    return splitTo(one, two);
                default:
                    return false;
            }
        }

        private boolean sitDown(int table, int who) {
            Bench bench = benchAt(table);
            if (bench == null || bench.sitting != 0 || who == 0 || !house.hasAll(who)) {
                return false;
            }
            if ((who & seated()) != 0 || Integer.bitCount(who) > house.seatsOf(table)) {
                return false;
            }
            int ghosts = bench.guestsOf(bench.turn);
            int words = bench.wordsOf(bench.turn);
            strife += house.strifeOf(who, ghosts);
            joy += house.joyOf(who, ghosts);
            payAll(who, ghosts, house.priceOf(table));
            hearAll(who, words);
            meetAll(who, ghosts);
            bench.sitting = who;
            bench.turnOn();
            return true;
        }

        private void payAll(int who, int ghosts, int price) {
            int payer = NONE;
            for (int g = 0; g < GUESTS_MOST; g++) {
                if (isIn(who, g)) {
                    paid[g] += price;
                    payer = payer == NONE ? g : payer;
                }
            }
            for (int g = 0; g < GUESTS_MOST && payer != NONE; g++) {
                if (isIn(ghosts, g)) {
                    paid[payer] += price;
                    debts[GUESTS_MOST * payer + g] += g == payer ? 0 : price;
                }
            }
        }

        private void hearAll(int who, int words) {
            for (int g = 0; g < GUESTS_MOST; g++) {
                if (isIn(who, g)) {
                    heard[g] |= words;
                }
            }
        }

        private void meetAll(int who, int ghosts) {
            for (int g = 0; g < GUESTS_MOST; g++) {
                int others = isIn(who, g) ? who | ghosts : isIn(ghosts, g) ? who : 0;
                met[g] |= others & ~(1 << g);
            }
        }

        private boolean speak(int guest, int word) {
            Bench bench = house.hasGuest(guest) ? benchAt(tableOf(guest)) : null;
            if (bench == null || !isOf(word, 0, WORDS)) {
                return false;
            }
            bench.said |= 1 << word;
            hearAll(bench.sitting, 1 << word);
            return true;
        }

        private void endNight() {
            for (int t = 0; t < benches.length; t++) {
                benches[t].endNight(nights, house.keepsOf(t));
            }
            nights++;
        }

        private boolean scrubAt(int table) {
            Bench bench = benchAt(table);
            if (bench == null || bench.sitting != 0 || bench.size < 2) {
                return false;
            }
            bench.forgetLastButOne();
            return true;
        }

        private boolean joinTo(int table, int other) {
            Bench bench = benchAt(table);
            Bench from = benchAt(other);
            if (bench == null || from == null || table == other || bench.sitting != 0 || from.sitting != 0) {
                return false;
            }
            for (int k = 0; k < from.size; k++) {
                bench.append(from.guestsOf(k), from.wordsOf(k), from.nightOf(k));
            }
            bench.forgetFirst(bench.size - house.keepsOf(table));
            from.clear();
            return true;
        }

        private boolean splitTo(int table, int other) {
            Bench bench = benchAt(table);
            Bench to = benchAt(other);
            if (bench == null || to == null || table == other || bench.sitting != 0 || to.sitting != 0) {
                return false;
            }
            if (to.size > 0 || bench.size < 2) {
                return false;
            }
            int half = bench.size / 2;
            for (int k = 0; k < half; k++) {
                to.append(bench.guestsOf(k), bench.wordsOf(k), bench.nightOf(k));
            }
            bench.forgetFirst(half);
            bench.turn = 0;
            to.forgetFirst(to.size - house.keepsOf(other));
            to.turn = 0;
            return true;
        }

        /** DRAWN: how often one did not sit; all else stands in this state. */
        int draw(House of, int seed, int drawnNights) {
            begin(of);
            int x = seed;
            int unseated = 0;
            for (int night = 0; night < drawnNights && house.tables > 0; night++) {
                Arrays.fill(drew, 0);
                for (int g = 0; g < house.guests; g++) {
                    x = x * 1103515245 + 12345;
                    int table = (x >>> 16) % house.tables;
                    drew[table] |= 1 << g;
                }
                for (int t = 0; t < house.tables; t++) {
                    unseated += seatDrawn(t, drew[t]);
                }
                endNight();
            }
            return unseated;
        }

        private int seatDrawn(int table, int drawn) {
            int who = 0;
            for (int g = 0; g < house.guests; g++) {
                if (isIn(drawn, g) && Integer.bitCount(who) < house.seatsOf(table)) {
                    who |= 1 << g;
                }
            }
            sitDown(table, who);
            for (int g = 0; g < house.guests; g++) {
                if (isIn(who, g)) {
                    speak(g, g);
                }
            }
            return Integer.bitCount(drawn) - Integer.bitCount(who);
        }

        int heardBy(int guest) {
            return house.hasGuest(guest) ? heard[guest] : 0;
        }

        int paidBy(int guest) {
            return house.hasGuest(guest) ? paid[guest] : 0;
        }

        int paidByAll() {
            int sum = 0;
            for (int g = 0; g < GUESTS_MOST; g++) {
                sum += paid[g];
            }
            return sum;
        }

        int metBy(int guest) {
            return house.hasGuest(guest) ? met[guest] : 0;
        }

        int debtOf(int guest, int to) {
            return house.hasGuest(guest) && house.hasGuest(to) ? debts[GUESTS_MOST * guest + to] : 0;
        }

        int netOf(int guest) {
            int net = 0;
            for (int g = 0; g < house.guests; g++) {
                net += debtOf(g, guest) - debtOf(guest, g);
            }
            return net;
        }

        private int creditorOf(int guest) {
            int who = NONE;
            for (int g = 0; g < house.guests; g++) {
                int owed = debtOf(guest, g);
                if (owed > 0 && (who == NONE || owed > debtOf(guest, who))) {
                    who = g;
                }
            }
            return who;
        }

        /** CHAIN from a guest. */
        void followDebts(int guest) {
            int there = 0;
            int next = guest;
            chainLength = 0;
            chainLast = NONE;
            for (int step = 0; step < GUESTS_MOST && next != NONE && !isIn(there, next); step++) {
                there |= 1 << next;
                chainLast = next;
                chainLength++;
                next = creditorOf(next);
            }
        }

        /** GOSSIP: all who can be reached in so many steps are known, step by step. */
        int gossip(int guest, int other) {
            int known = 1 << guest;
            for (int steps = 0; steps < GUESTS_MOST; steps++) {
                if (isIn(known, other)) {
                    return steps;
                }
                int wider = known;
                for (int g = 0; g < house.guests; g++) {
                    wider |= isIn(known, g) ? metBy(g) : 0;
                }
                known = wider;
            }
            return NONE;
        }

        int pastsOf(int guest) {
            int many = 0;
            for (int t = 0; t < house.tables && t < benches.length; t++) {
                for (int k = 0; k < benches[t].size; k++) {
                    many += isIn(benches[t].guestsOf(k), guest) ? 1 : 0;
                }
            }
            return many;
        }

        int mostSeen() {
            int who = NONE;
            int most = 0;
            for (int g = 0; g < house.guests; g++) {
                int many = pastsOf(g);
                if (many > most) {
                    most = many;
                    who = g;
                }
            }
            return who;
        }

        int crowdAt(int table) {
            Bench bench = benchAt(table);
            return bench == null ? 0 : Integer.bitCount(bench.allGuests());
        }

        int mostCrowded() {
            int where = NONE;
            for (int t = 0; t < house.tables; t++) {
                if (where == NONE || crowdAt(t) > crowdAt(where)) {
                    where = t;
                }
            }
            return where;
        }

        /** GAIN of one, who chooses table a, while two chooses b. */
        int gainOf(int one, int two, int a, int b) {
            Bench bench = benchAt(a);
            if (bench == null) {
                return 0;
            }
            int loved = house.lovesOf(one);
            int loathed = house.quarrelsOf(one);
            int sum = -house.priceOf(a);
            for (int k = 0; k < bench.size; k++) {
                sum += Integer.bitCount(bench.guestsOf(k) & loved);
                sum -= Integer.bitCount(bench.guestsOf(k) & loathed);
            }
            if (a == b) {
                sum += isIn(loved, two) ? 3 : 0;
                sum -= isIn(loathed, two) ? 3 : 0;
            }
            return sum;
        }

        boolean isRest(int one, int two, int a, int b) {
            for (int t = 0; t < house.tables; t++) {
                if (gainOf(one, two, t, b) > gainOf(one, two, a, b)) {
                    return false;
                }
                if (gainOf(two, one, t, a) > gainOf(two, one, b, a)) {
                    return false;
                }
            }
            return true;
        }
    }

    /** What comes round at tables where somebody sits each night: COMES, FORGETS, SPY, and HEARINGS. */
    private static final class Rounds {
        private final Bench trial = new Bench();
        private final int[] echoes = new int[TABLES_MOST * SPY_NIGHTS];
        private final int[] visits = new int[TABLES_MOST];
        private final int[] route = new int[SPY_NIGHTS];
        private final int[] sure = new int[ROWS_MOST];
        private int first = NONE;
        private int last = NONE;
        private int often = 0;
        private boolean fitting = true;
        private int next = NONE;

        private void tryFrom(State state, int table) {
            Bench bench = state.benchAt(table);
            if (bench == null) {
                trial.clear();
            } else {
                trial.copyFrom(bench);
                trial.endNight(state.nights, state.house.keepsOf(table));
            }
        }

        /** COMES: behind as many nights as a table keeps sittings, no past of now is left. */
        void awaitWord(State state, int table, int word) {
            first = NONE;
            last = NONE;
            often = 0;
            tryFrom(state, table);
            for (int sitting = 1; sitting <= KEEPS_MOST; sitting++) {
                if (isIn(trial.wordsOf(trial.turn), word)) {
                    first = first == NONE ? sitting : first;
                    last = sitting;
                    often++;
                }
                trial.sitQuietly(state.nights, state.house.keepsOf(table));
            }
        }

        int untilForgotten(State state, int table, int guest) {
            tryFrom(state, table);
            int sittings = 0;
            while (sittings < KEEPS_MOST && isIn(trial.allGuests(), guest)) {
                trial.sitQuietly(state.nights, state.house.keepsOf(table));
                sittings++;
            }
            return sittings;
        }

        /** SPY: the nights, NONE if they are too many; the tables stand in route. */
        int spyOut(State state, int words) {
            int tables = state.house.tables;
            for (int t = 0; t < tables && t < TABLES_MOST; t++) {
                tryFrom(state, t);
                for (int visit = 0; visit < SPY_NIGHTS; visit++) {
                    echoes[SPY_NIGHTS * t + visit] = trial.wordsOf(trial.turn);
                    trial.sitQuietly(state.nights, state.house.keepsOf(t));
                }
            }
            int rows = 1;
            for (int nights = 0; nights <= SPY_NIGHTS; nights++) {
                for (int row = 0; row < rows; row++) {
                    if ((words & ~wordsOn(row, nights, tables)) == 0) {
                        return nights;
                    }
                }
                rows *= tables;
            }
            return NONE;
        }

        /** The words that come round on a row of tables, which is told as a number by the count of tables. */
        private int wordsOn(int row, int nights, int tables) {
            if (tables < 1) {
                return 0;
            }
            int rest = row;
            for (int i = Math.min(nights, SPY_NIGHTS) - 1; i >= 0; i--) {
                route[i] = rest % tables;
                rest /= tables;
            }
            Arrays.fill(visits, 0);
            int words = 0;
            for (int i = 0; i < nights && i < SPY_NIGHTS; i++) {
                int table = route[i];
                if (isOf(table, 0, TABLES_MOST) && visits[table] < SPY_NIGHTS) {
                    words |= echoes[SPY_NIGHTS * table + visits[table]];
                    visits[table]++;
                }
            }
            return words;
        }

        int spiedTable(int night) {
            return isOf(night, 0, SPY_NIGHTS) ? route[night] : NONE;
        }

        /** Which sitting comes round at which row depends on the rows alone, so each row tells one guest at most. */
        void listen(House house, Lines rows, int table) {
            fitting = true;
            Arrays.fill(sure, NONE);
            trial.clear();
            for (int k = 0; k < rows.size; k++) {
                if (!listenTo(house, rows.firstOf(k), trial.nightOf(trial.turn))) {
                    fitting = false;
                }
                trial.sitQuietly(k, house.keepsOf(table));
            }
            next = trial.nightOf(trial.turn);
        }

        private boolean listenTo(House house, int who, int sitting) {
            if (sitting == NONE || who == NONE) {
                return sitting == who;
            }
            if (!house.hasGuest(who) || !isOf(sitting, 0, ROWS_MOST)) {
                return false;
            }
            if (sure[sitting] != NONE) {
                return sure[sitting] == who;
            }
            sure[sitting] = who;
            return true;
        }

        int fittingRows(int guests, int sittings) {
            int many = fitting ? 1 : 0;
            for (int i = 0; i < sittings && i < ROWS_MOST; i++) {
                many *= sure[i] == NONE ? guests : 1;
            }
            return many;
        }

        int tellable(int guests) {
            if (!fitting || !isOf(next, 0, ROWS_MOST)) {
                return 0;
            }
            return sure[next] == NONE ? guests : 1;
        }

        int sureOf(int sitting, int guests) {
            if (!fitting || !isOf(sitting, 0, ROWS_MOST)) {
                return NONE;
            }
            return sure[sitting] == NONE && guests == 1 ? 0 : sure[sitting];
        }
    }

    /** SEATING of all guests by wishes, guest by guest. */
    private static final class Seating {
        private final int[] allowed = new int[SEATED_MOST];
        private final int[] apart = new int[SEATED_MOST];
        private final int[] beside = new int[SEATED_MOST];
        private final int[] ghosts = new int[TABLES_MOST];
        private final int[] sitting = new int[TABLES_MOST];
        private final int[] chosen = new int[SEATED_MOST];
        private final int[] best = new int[SEATED_MOST];
        private House house = new House();
        private int ways = 0;
        private int leastHarm = 0;
        private int leastPaid = 0;

        void search(State state, Lines wishes) {
            house = state.house;
            ways = 0;
            Arrays.fill(allowed, (1 << TABLES_MOST) - 1);
            Arrays.fill(apart, 0);
            Arrays.fill(beside, 0);
            Arrays.fill(sitting, 0);
            for (int t = 0; t < TABLES_MOST; t++) {
                Bench bench = state.benchAt(t);
                ghosts[t] = bench == null ? 0 : bench.guestsOf(bench.turn);
            }
            boolean fulfillable = true;
            for (int k = 0; k < wishes.size; k++) {
                if (!takeWish(state, wishes.kindOf(k), wishes.firstOf(k), wishes.secondOf(k))) {
                    fulfillable = false;
                }
            }
            if (fulfillable) {
                seatFrom(0, 0, 0);
            }
        }

        private boolean takeWish(State state, int kind, int one, int two) {
            if (!isHere(one)) {
                return false;
            }
            if (kind == HEAR || kind == SHUN) {
                allowed[one] &= tablesWith(state, two, kind == HEAR);
                return true;
            }
            if (!isHere(two)) {
                return false;
            }
            int[] bits = kind == APART ? apart : beside;
            bits[one] |= 1 << two;
            bits[two] |= 1 << one;
            return true;
        }

        private boolean isHere(int guest) {
            return house.hasGuest(guest) && guest < SEATED_MOST;
        }

        private static int tablesWith(State state, int word, boolean has) {
            int bits = 0;
            for (int t = 0; t < TABLES_MOST; t++) {
                Bench bench = state.benchAt(t);
                if (bench != null && isIn(bench.wordsOf(bench.turn), word) == has) {
                    bits |= 1 << t;
                }
            }
            return bits;
        }

        private void seatFrom(int guest, int harm, int paid) {
            if (guest >= house.guests || guest >= SEATED_MOST) {
                weigh(harm, paid);
                return;
            }
            for (int t = 0; t < house.tables && t < TABLES_MOST; t++) {
                if (maySit(guest, t)) {
                    int strife = Integer.bitCount(house.quarrelsOf(guest) & ghosts[t])
                            + Integer.bitCount(house.quarrelsOf(guest) & sitting[t]);
                    int heads = 1 + (sitting[t] == 0 ? Integer.bitCount(ghosts[t]) : 0);
                    sitting[t] |= 1 << guest;
                    chosen[guest] = t;
                    seatFrom(guest + 1, harm + strife, paid + heads * house.priceOf(t));
                    sitting[t] &= ~(1 << guest);
                }
            }
        }

        private boolean maySit(int guest, int table) {
            if (!isOf(guest, 0, SEATED_MOST) || !isOf(table, 0, TABLES_MOST) || !isIn(allowed[guest], table)) {
                return false;
            }
            int there = sitting[table];
            int before = (1 << guest) - 1;
            return Integer.bitCount(there) < house.seatsOf(table)
                    && (apart[guest] & there) == 0
                    && (beside[guest] & before & ~there) == 0;
        }

        private void weigh(int harm, int paid) {
            if (ways == 0 || harm < leastHarm || harm == leastHarm && paid < leastPaid) {
                leastHarm = harm;
                leastPaid = paid;
                System.arraycopy(chosen, 0, best, 0, SEATED_MOST);
            }
            ways++;
        }

        int bestTableOf(int guest) {
            return ways > 0 && isHere(guest) ? best[guest] : NONE;
        }
    }

    /** WEDDINGS, table by table. */
    private static final class Weddings {
        private final int[] welcome = new int[TABLES_MOST];
        private final int[] chosen = new int[TABLES_MOST];
        private final int[] best = new int[TABLES_MOST];
        private House house = new House();
        private int most = NONE;

        void search(State state) {
            house = state.house;
            most = NONE;
            for (int t = 0; t < TABLES_MOST; t++) {
                Bench bench = state.benchAt(t);
                welcome[t] = 0;
                for (int g = 0; g < house.guests && bench != null && house.seatsOf(t) >= 2; g++) {
                    if ((house.quarrelsOf(g) & bench.allGuests()) == 0) {
                        welcome[t] |= 1 << g;
                    }
                }
            }
            marryFrom(0, (1 << house.guests) - 1, 0);
        }

        /** Rows are tried in their order, so the first one of the most weddings stays. */
        private void marryFrom(int table, int free, int weddings) {
            int left = house.tables - table;
            if (weddings + Math.min(left, Integer.bitCount(free) / 2) <= most) {
                return;
            }
            if (left <= 0 || !isOf(table, 0, TABLES_MOST)) {
                most = weddings;
                System.arraycopy(chosen, 0, best, 0, TABLES_MOST);
                return;
            }
            for (int one = 0; one < house.guests; one++) {
                for (int two = one + 1; two < house.guests; two++) {
                    int both = 1 << one | 1 << two;
                    if (isIn(house.lovesOf(one), two) && (both & ~(free & welcome[table])) == 0) {
                        chosen[table] = GUESTS_MOST * one + two;
                        marryFrom(table + 1, free & ~both, weddings + 1);
                    }
                }
            }
            chosen[table] = NONE;
            marryFrom(table + 1, free, weddings);
        }

        int coupleAt(int table) {
            return isOf(table, 0, TABLES_MOST) ? best[table] : NONE;
        }
    }

    /** How those who quarrel are parted: CUTS, LEAST, COUNCIL, SPLIT. */
    private static final class Parting {
        private final int[] fewest = new int[1 << GUESTS_MOST];

        /** Each part as long as it goes makes the fewest cuts. */
        int fewestCuts(House house, Bench bench) {
            int cuts = 0;
            int part = 0;
            for (int k = 0; k < bench.size; k++) {
                int guests = bench.guestsOf(k);
                if (!house.isPeaceful(guests)) {
                    return NONE;
                }
                if (house.isPeaceful(part | guests)) {
                    part |= guests;
                } else {
                    cuts++;
                    part = guests;
                }
            }
            return cuts;
        }

        int leastForgotten(House house, Bench bench) {
            int pasts = Math.min(bench.size, KEEPS_MOST);
            int least = (1 << pasts) - 1;
            for (int gone = least; gone >= 0; gone--) {
                int left = 0;
                for (int k = 0; k < pasts; k++) {
                    left |= isIn(gone, k) ? 0 : bench.guestsOf(k);
                }
                if (Integer.bitCount(gone) <= Integer.bitCount(least) && house.isPeaceful(left)) {
                    least = gone;
                }
            }
            return least;
        }

        int greatestPeace(House house) {
            int greatest = 0;
            for (int who = 1; who < 1 << house.guests; who++) {
                if (Integer.bitCount(who) > Integer.bitCount(greatest) && house.isPeaceful(who)) {
                    greatest = who;
                }
            }
            return greatest;
        }

        /** The fewest tables of each set of guests, from those of its smaller parts. */
        int fewestTables(House house) {
            int sets = Math.min(1 << house.guests, fewest.length);
            fewest[0] = 0;
            for (int who = 1; who < sets; who++) {
                fewest[who] = GUESTS_MOST;
                for (int part = who; part > 0; part = part - 1 & who) {
                    if (fewest[who ^ part] + 1 < fewest[who] && house.isPeaceful(part)) {
                        fewest[who] = fewest[who ^ part] + 1;
                    }
                }
            }
            return fewest[sets - 1];
        }
    }
}
