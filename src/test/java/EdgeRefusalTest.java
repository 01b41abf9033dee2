/** Promises 6 to 30: what each call refuses, just beyond each edge, and what it still answers just within. */
final class EdgeRefusalTest {
    private static final int NO_SUM = -1000000;
    private static final int[] FAR = {Integer.MIN_VALUE, -65536, -256, -3, -2, 256, 65536, Integer.MAX_VALUE};
    /** Three tables, five guests; behind 4 deeds nobody sits, two tables have a past; the fifth deed can't be. */
    private static final String INN = "table 3 2 1;table 2 3 2;table 2 1 0;guests 5;love 0 1;quarrel 1 2;";
    private static final String EVENINGS = "sit 0 0 1;say 0 9;sit 1 2;night;scrub 2;night;";
    private static final int STOP = 4;
    private static final String HEARING = "silence;heard 1;";
    private static final String WISHES = "hear 0 9;shun 2 9;";

    private interface OfState {
        int ask(GrainInn x, int inn, int evenings, int n);
    }

    private interface OfNumber {
        int ask(GrainInn x, int number);
    }

    public static void main(String[] args) {
        stop();
        states();
        inns();
        hearings();
        wishes();
        whatsOfAnInn();
        whatsOfAState();
        whatsOfGuestsAndPasts();
        whatsOfSearches();
        whatsOfYears();
        tables();
        guests();
        words();
        setsOfWords();
        bothAreOne();
        pastsAndRows();
        somebodySits();
        images();
        imageOfAll();
        againLeavesTheOthers();
        Check.finish();
    }

    /** Two inns and two evenings, wishes and hearings, so that number 1 is there and number 2 is not. */
    private static GrainInn full() {
        GrainInn x = new GrainInn();
        for (int at = 0; at < 2; at++) {
            Check.due("inn", Check.take(x, 0, INN), at);
            Check.due("evenings", Check.take(x, 1, EVENINGS), at);
            Check.due("wishes", Check.take(x, 2, WISHES), at);
            Check.due("hearing", Check.take(x, 3, HEARING), at);
        }
        return x;
    }

    private static GrainInn one() {
        GrainInn x = new GrainInn();
        Check.take(x, 0, INN);
        Check.take(x, 1, EVENINGS);
        Check.take(x, 2, WISHES);
        Check.take(x, 3, HEARING);
        return x;
    }

    private static void is(String call, int number, int got, boolean can, int refusal) {
        String of = call + " of " + number + (can ? " is answered" : " is refused");
        Check.due(of, can ? got != refusal ? 1 : 0 : got, can ? 1 : refusal);
    }

    /** Numbers from -2 on to 70, and far ones: those from a first one on to a last one are answered, others not. */
    private static void within(String call, int first, int last, int refusal, OfNumber asked) {
        GrainInn x = full();
        for (int number = -2; number <= 70; number++) {
            is(call, number, asked.ask(x, number), number >= first && number <= last, refusal);
        }
        for (int number : FAR) {
            is(call, number, asked.ask(x, number), false, refusal);
        }
    }

    /** Of all numbers from -2 on to 70, and far ones, these alone are answered. */
    private static void these(String call, int refusal, OfNumber asked, int... numbers) {
        GrainInn x = full();
        for (int number = -2; number <= 70; number++) {
            boolean can = false;
            for (int those : numbers) {
                can |= those == number;
            }
            is(call, number, asked.ask(x, number), can, refusal);
        }
        for (int number : FAR) {
            is(call, number, asked.ask(x, number), false, refusal);
        }
    }

    /** "there is no such STATE": no such inn, no such evenings, n below 0 or beyond STOP. */
    private static void state(String call, int refusal, OfState asked) {
        GrainInn x = full();
        for (int at : new int[] {-1, 2, 3, Integer.MIN_VALUE, Integer.MAX_VALUE}) {
            is(call + ", inn", at, asked.ask(x, at, 0, STOP), false, refusal);
            is(call + ", evenings", at, asked.ask(x, 0, at, STOP), false, refusal);
        }
        for (int at = 0; at < 2; at++) {
            is(call + ", inn", at, asked.ask(x, at, 1 - at, STOP), true, refusal);
            is(call + ", evenings", at, asked.ask(x, 1 - at, at, STOP), true, refusal);
        }
        for (int n : new int[] {-1, STOP + 1, STOP + 2, STOP + 3, 40, 41, Integer.MIN_VALUE, Integer.MAX_VALUE}) {
            is(call + ", n", n, asked.ask(x, 0, 0, n), false, refusal);
        }
        is(call + ", n", STOP, asked.ask(x, 0, 0, STOP), true, refusal);
        GrainInn y = one();
        is(call + ", inn of one", 1, asked.ask(y, 1, 0, STOP), false, refusal);
        is(call + ", evenings of one", 1, asked.ask(y, 0, 1, STOP), false, refusal);
        is(call + ", inn of one", 0, asked.ask(y, 0, 0, STOP), true, refusal);
        GrainInn none = new GrainInn();
        is(call + ", inn of none", 0, asked.ask(none, 0, 0, 0), false, refusal);
        Check.take(none, 0, INN);
        is(call + ", evenings of none", 0, asked.ask(none, 0, 0, 0), false, refusal);
    }

    /** "STOP. NONE: there is none such (of either)." */
    private static void stop() {
        within("stop's inn", 0, 1, -1, (x, i) -> x.stop(i, 0));
        within("stop's evenings", 0, 1, -1, (x, i) -> x.stop(0, i));
        GrainInn x = new GrainInn();
        Check.due("of none", x.stop(0, 0), -1);
        Check.take(x, 0, INN);
        Check.due("without evenings", x.stop(0, 0), -1);
        GrainInn y = new GrainInn();
        Check.take(y, 1, EVENINGS);
        Check.due("without an inn", y.stop(0, 0), -1);
        Check.take(y, 0, INN);
        Check.due("of both", y.stop(0, 0), STOP);
    }

    private static void states() {
        state("state", -2, (x, i, e, n) -> x.state(i, e, n, 0));
        state("guest", NO_SUM, (x, i, e, n) -> x.guest(i, e, n, 0, 0));
        state("past", -1, (x, i, e, n) -> x.past(i, e, n, 0, 0, 0));
        state("seats", -1, (x, i, e, n) -> x.seats(i, e, n, 0, 0));
        state("ways of seats", -1, (x, i, e, n) -> x.seats(i, e, n, 0, 2));
        state("comes", -1, (x, i, e, n) -> x.comes(i, e, n, 0, 9, 0));
        state("how often it comes", -1, (x, i, e, n) -> x.comes(i, e, n, 0, 0, 2));
        state("cuts", -1, (x, i, e, n) -> x.cuts(i, e, n, 0, 0));
        state("least", -1, (x, i, e, n) -> x.cuts(i, e, n, 0, 1));
        state("gain", NO_SUM, (x, i, e, n) -> x.gain(i, e, n, 0, 1, 0, 0));
        state("rest", -1, (x, i, e, n) -> x.rest(i, e, n, 0, 1, -1));
        state("whisper", -1, (x, i, e, n) -> x.whisper(i, e, n, 9, false));
        state("whisper's table", -1, (x, i, e, n) -> x.whisper(i, e, n, 9, true));
        state("met", -2, (x, i, e, n) -> x.met(i, e, n, 0, -1));
        state("gossip", -2, (x, i, e, n) -> x.met(i, e, n, 0, 0));
        state("ghosts", -2, (x, i, e, n) -> x.ghosts(i, e, n, 0));
        state("crowd", -2, (x, i, e, n) -> x.ghosts(i, e, n, 3));
        state("forgets", -1, (x, i, e, n) -> x.forgets(i, e, n, 0, 0));
        state("spy", -1, (x, i, e, n) -> x.spy(i, e, n, 512, 0));
        state("weddings", -2, (x, i, e, n) -> x.weddings(i, e, n, 0));
    }

    private static void inns() {
        within("inn", 0, 1, -1, (x, i) -> x.inn(i, 0));
        within("council", 0, 1, -1, (x, i) -> x.council(i, false));
        within("split", 0, 1, -1, (x, i) -> x.council(i, true));
        within("drawn", 0, 1, -2, (x, i) -> x.drawn(i, 1, 1, 0));
        within("fits", 0, 1, -1, (x, i) -> x.fits(i, 0, 0, 0));
        within("tells", 0, 1, -1, (x, i) -> x.fits(i, 0, 0, 1));
        within("image", 0, 2, 0, (x, k) -> x.image(k) ? 1 : 0);
        within("count", 0, 3, -2, (x, sort) -> x.count(sort));
        within("fault's what", 0, 0, -1, (x, what) -> x.fault(what));
        GrainInn x = Check.with("guests 3;", "");
        for (int what = 0; what < 4; what++) {
            Check.due("drawn without tables", x.drawn(0, 1, 1, what), -2);
        }
        Check.due("drawn without tables, heard", x.drawn(0, 1, 1, 10), -2);
    }

    private static void hearings() {
        within("heard", 0, 1, -2, (x, h) -> x.heard(h, -1));
        within("row 1 of heard", 0, 1, -2, (x, h) -> x.heard(h, 1));
        within("fits' hearing", 0, 1, -1, (x, h) -> x.fits(0, h, 0, 0));
        within("fits' table", 0, 2, -1, (x, t) -> x.fits(0, 0, t, 0));
        within("tells' table", 0, 2, -1, (x, t) -> x.fits(0, 0, t, 1));
        these("fits' what", -1, (x, what) -> x.fits(0, 0, 0, what), 0, 1, 10);
        GrainInn y = Check.with("table 1 1 0;guests 1;", "");
        Check.due("hearing", Check.take(y, 3, "silence;" + "heard 0;".repeat(6)), 0);
        for (int i = -1; i < 9; i++) {
            Check.due("sitting " + i + " of seven", y.fits(0, 0, 0, 10 + i), i < 0 || i > 6 ? -1 : 0);
        }
        Check.due("no hearing 1", y.fits(0, 1, 0, 0), -1);
        Check.due("no hearing 1, heard", y.heard(1, -1), -2);
    }

    private static void wishes() {
        within("wish", 0, 1, -2, (x, w) -> x.wish(w, -1, 0));
        within("wish 1", 0, 1, -2, (x, w) -> x.wish(w, 1, 0));
        within("seats' wishes", 0, 1, -1, (x, w) -> x.seats(0, 0, STOP, w, 0));
        within("ways by wishes", 0, 1, -1, (x, w) -> x.seats(0, 0, STOP, w, 2));
        within("deed", 0, 1, -2, (x, e) -> x.deed(e, -1, 0));
        within("deed 0", 0, 1, -2, (x, e) -> x.deed(e, 0, 0));
        GrainInn x = Check.with(INN, EVENINGS);
        Check.due("seats without wishes", x.seats(0, 0, STOP, 0, 2), -1);
        Check.due("wish without wishes", x.wish(0, -1, 0), -2);
    }

    private static void whatsOfAnInn() {
        these("inn's what", -1, (x, what) -> x.inn(0, what), 0, 1, 10, 11, 12, 20, 21, 22, 30, 31, 32,
            40, 41, 42, 43, 44, 50, 51, 52, 53, 54);
        these("deed's what", -2, (x, what) -> x.deed(0, 0, what), 0, 1, 2);
        these("night's what", -2, (x, what) -> x.deed(0, 3, what), 0, 1, 2);
        these("deeds' what", -2, (x, what) -> x.deed(0, -1, what), 0);
        these("wish's what", -2, (x, what) -> x.wish(0, 0, what), 0, 1, 2);
        these("wishes' what", -2, (x, what) -> x.wish(0, -1, what), 0);
        GrainInn full = new GrainInn();
        Check.take(full, 0, "table 8 6 9;".repeat(5) + "guests 8;");
        GrainInn least = new GrainInn();
        Check.take(least, 0, "guests 1;");
        for (int i = -1; i < 10; i++) {
            for (int row = 10; row <= 50; row += 10) {
                if (i >= 0 && i < 10) {
                    boolean can = row < 40 ? i < 5 : i < 8;
                    is("inn of all, what", row + i, full.inn(0, row + i), can, -1);
                    is("inn of one guest, what", row + i, least.inn(0, row + i), row >= 40 && i == 0, -1);
                }
            }
        }
    }

    private static void whatsOfAState() {
        these("state's what", -2, (x, what) -> x.state(0, 0, STOP, what), 0, 1, 2, 3, 4, 10, 11, 12, 20, 21, 22, 30, 31, 32);
        GrainInn full = Check.with("table 1 1 1;".repeat(5), "");
        GrainInn none = Check.with("", "");
        for (int what = -2; what < 45; what++) {
            boolean can = what >= 0 && what < 5;
            is("state of none, what", what, none.state(0, 0, 0, what), can, -2);
            boolean table = what >= 10 && what < 40 && what % 10 < 5;
            is("state of five, what", what, full.state(0, 0, 0, what), can || table, -2);
        }
    }

    private static void whatsOfGuestsAndPasts() {
        these("guest's what", NO_SUM, (x, what) -> x.guest(0, 0, STOP, 0, what), 0, 1, 2, 3, 4, 5, 10, 11, 12, 13, 14);
        these("past's what", -1, (x, what) -> x.past(0, 0, STOP, 0, 0, what), 0, 1, 2);
        GrainInn full = Check.with("guests 8;", "");
        GrainInn least = Check.with("guests 1;", "");
        for (int what = -2; what < 25; what++) {
            boolean can = what >= 0 && what < 6;
            is("guest of eight, what", what, full.guest(0, 0, 0, 7, what), can || what >= 10 && what < 18, NO_SUM);
            is("guest alone, what", what, least.guest(0, 0, 0, 0, what), can || what == 10, NO_SUM);
        }
    }

    private static void whatsOfSearches() {
        these("seats' what", -1, (x, what) -> x.seats(0, 0, STOP, 0, what), 0, 1, 2, 10, 11, 12, 13, 14);
        these("comes' what", -1, (x, what) -> x.comes(0, 0, STOP, 0, 9, what), 0, 1, 2);
        these("cuts' what", -1, (x, what) -> x.cuts(0, 0, STOP, 0, what), 0, 1, 2);
        these("ghosts' what", -2, (x, what) -> x.ghosts(0, 0, STOP, what), 0, 1, 2, 3);
        these("ghosts' what at first", -2, (x, what) -> x.ghosts(0, 0, 0, what), 0, 1, 2, 3);
        these("spy's what", -1, (x, what) -> x.spy(0, 0, STOP, 512, what), 0, 10);
        these("spy's what of no words", -1, (x, what) -> x.spy(0, 0, STOP, 0, what), 0);
        these("weddings' what", -2, (x, what) -> x.weddings(0, 0, STOP, what), 0, 10, 11, 12);
    }

    private static void whatsOfYears() {
        these("drawn's what", -2, (x, what) -> x.drawn(0, 1, 1, what), 0, 1, 2, 3, 10, 11, 12, 13, 14, 20, 21, 22, 30, 31, 32);
        within("drawn's nights", 1, 40, -2, (x, nights) -> x.drawn(0, 1, nights, 3));
        GrainInn full = Check.with("table 1 1 1;".repeat(5) + "guests 8;", "");
        for (int what = -2; what < 45; what++) {
            boolean can = what >= 0 && what < 4 || what >= 10 && what < 18 || what >= 20 && what < 40 && what % 10 < 5;
            is("drawn of all, what", what, full.drawn(0, 1, 1, what), can, -2);
        }
    }

    /** "there is no such .. TABLE" */
    private static void tables() {
        within("past's table", 0, 1, -1, (x, t) -> x.past(0, 0, STOP, t, 0, 0));
        within("comes' table", 0, 2, -1, (x, t) -> x.comes(0, 0, STOP, t, 9, 2));
        within("cuts' table", 0, 2, -1, (x, t) -> x.cuts(0, 0, STOP, t, 0));
        within("least's table", 0, 2, -1, (x, t) -> x.cuts(0, 0, STOP, t, 1));
        within("least's table, which", 0, 2, -1, (x, t) -> x.cuts(0, 0, STOP, t, 2));
        within("gain's first table", 0, 2, NO_SUM, (x, t) -> x.gain(0, 0, STOP, 0, 1, t, 0));
        within("gain's second table", 0, 2, NO_SUM, (x, t) -> x.gain(0, 0, STOP, 0, 1, 0, t));
        within("forgets' table", 0, 2, -1, (x, t) -> x.forgets(0, 0, STOP, t, 0));
        GrainInn none = Check.with("guests 2;", "");
        Check.due("comes without tables", none.comes(0, 0, 0, 0, 0, 2), -1);
        Check.due("cuts without tables", none.cuts(0, 0, 0, 0, 0), -1);
        Check.due("gain without tables", none.gain(0, 0, 0, 0, 1, 0, 0), NO_SUM);
        Check.due("forgets without tables", none.forgets(0, 0, 0, 0, 0), -1);
        Check.due("past without tables", none.past(0, 0, 0, 0, 0, 0), -1);
        Check.due("weddings without tables", none.weddings(0, 0, 0, 0), 0);
        Check.due("rests without tables", none.rest(0, 0, 0, 0, 1, -1), 0);
        Check.due("rest 0 without tables", none.rest(0, 0, 0, 0, 1, 0), -1);
    }

    /** "there is no such .. guest" */
    private static void guests() {
        within("guest", 0, 4, NO_SUM, (x, g) -> x.guest(0, 0, STOP, g, 0));
        within("guest's net", 0, 4, NO_SUM, (x, g) -> x.guest(0, 0, STOP, g, 3));
        within("gain's first", 1, 4, NO_SUM, (x, g) -> x.gain(0, 0, STOP, g, 0, 0, 0));
        within("gain's second", 0, 3, NO_SUM, (x, g) -> x.gain(0, 0, STOP, 4, g, 0, 0));
        within("rest's first", 1, 4, -1, (x, g) -> x.rest(0, 0, STOP, g, 0, -1));
        within("rest's second", 0, 3, -1, (x, g) -> x.rest(0, 0, STOP, 4, g, -1));
        within("met", 0, 4, -2, (x, g) -> x.met(0, 0, STOP, g, -1));
        within("met's other", -1, 4, -2, (x, g) -> x.met(0, 0, STOP, 0, g));
        within("gossip to himself", 0, 4, -2, (x, g) -> x.met(0, 0, STOP, g, g == -1 ? 0 : g));
        within("forgets' guest", 0, 4, -1, (x, g) -> x.forgets(0, 0, STOP, 0, g));
        GrainInn alone = Check.with("table 1 1 1;guests 1;", "");
        Check.due("rest of one alone", alone.rest(0, 0, 0, 0, 1, -1), -1);
        Check.due("gain of one alone", alone.gain(0, 0, 0, 0, 1, 0, 0), NO_SUM);
        Check.due("met of one alone", alone.met(0, 0, 0, 0, -1), 0);
        Check.due("gossip of one alone", alone.met(0, 0, 0, 0, 0), 0);
        Check.due("no other one", alone.met(0, 0, 0, 0, 1), -2);
    }

    /** "a WORD 0 .. 9", "or another WORD": each of the ten is said, and comes. */
    private static void words() {
        for (int word = -3; word < 45; word++) {
            int said = word >= 0 && word < 10 ? word : 0;
            GrainInn x = Check.with("table 1 6 0;guests 1;", "sit 0 0;say 0 " + said + ";night;");
            boolean can = said == word;
            Check.due("comes of " + word, x.comes(0, 0, 3, 0, word, 0), can ? 1 : -1);
            Check.due("its last of " + word, x.comes(0, 0, 3, 0, word, 1), can ? 2 : -1);
            Check.due("how often of " + word, x.comes(0, 0, 3, 0, word, 2), can ? 2 : -1);
            Check.due("whisper of " + word, x.whisper(0, 0, 3, word, false), can ? 1 : -1);
            Check.due("whisper's table of " + word, x.whisper(0, 0, 3, word, true), can ? 0 : -1);
        }
        GrainInn x = Check.with("table 1 6 0;guests 1;", "sit 0 0;say 0 0;night;");
        for (int word : FAR) {
            Check.due("comes of " + word, x.comes(0, 0, 3, 0, word, 0), -1);
            Check.due("whisper of " + word, x.whisper(0, 0, 3, word, false), -1);
        }
    }

    /** "WORDS (bits, 0 .. 1023)" */
    private static void setsOfWords() {
        StringBuilder evenings = new StringBuilder("sit 0 0;");
        for (int word = 0; word < 10; word++) {
            evenings.append("say 0 ").append(word).append(';');
        }
        GrainInn x = Check.with("table 1 6 0;guests 1;", evenings + "night;");
        for (int words : new int[] {0, 1, 2, 511, 512, 1022, 1023}) {
            Check.due("spy for " + words, x.spy(0, 0, 12, words, 0), words == 0 ? 0 : 1);
        }
        for (int words : new int[] {-1, -2, 1024, 1025, 2048, 65536, Integer.MAX_VALUE, Integer.MIN_VALUE}) {
            Check.due("spy for " + words, x.spy(0, 0, 12, words, 0), -1);
            Check.due("its night for " + words, x.spy(0, 0, 12, words, 10), -1);
        }
    }

    /** "both are one" */
    private static void bothAreOne() {
        GrainInn x = full();
        for (int one = 0; one < 5; one++) {
            for (int two = 0; two < 5; two++) {
                is("gain of " + one + " and", two, x.gain(0, 0, STOP, one, two, 0, 1), one != two, NO_SUM);
                is("rest of " + one + " and", two, x.rest(0, 0, STOP, one, two, -1), one != two, -1);
                is("rest 0 of " + one + " and", two, x.rest(0, 0, STOP, one, two, 0), one != two, -1);
            }
        }
    }

    /** "there is no such .. PAST", no such row, no such rest. */
    private static void pastsAndRows() {
        within("past 0 of one", 0, 0, -1, (x, k) -> x.past(0, 0, STOP, 0, k, 0));
        within("words of past 0", 0, 0, -1, (x, k) -> x.past(0, 0, STOP, 0, k, 1));
        within("night of past 0", 0, 0, -1, (x, k) -> x.past(0, 0, STOP, 0, k, 2));
        within("no past", 1, 0, -1, (x, k) -> x.past(0, 0, STOP, 2, k, 2));
        within("rows of a hearing", -1, 1, -2, (x, k) -> x.heard(0, k));
        within("deeds of evenings", -1, 5, -2, (x, k) -> x.deed(0, k, 0));
        within("wishes of wishes", -1, 1, -2, (x, k) -> x.wish(0, k, 0));
    }

    /** "NONE: .. somebody sits": of seats and spy, at any table. */
    private static void somebodySits() {
        for (int table = 0; table < 5; table++) {
            GrainInn x = Check.with("table 1 1 0;".repeat(5) + "guests 1;", "sit " + table + " 0;night;");
            Check.take(x, 2, "");
            for (int n = 0; n <= 2; n++) {
                boolean can = n != 1;
                is("seats behind", n, x.seats(0, 0, n, 0, 0), can, -1);
                is("ways behind", n, x.seats(0, 0, n, 0, 2), can, -1);
                is("seat of 0 behind", n, x.seats(0, 0, n, 0, 10), can, -1);
                is("spy behind", n, x.spy(0, 0, n, 0, 0), can, -1);
            }
        }
    }

    /** "(0 .. 2) ..: true; false for another k", "false if there is none such": nothing changes then. */
    private static void images() {
        for (int k = 0; k < 3; k++) {
            GrainInn x = new GrainInn();
            Check.due("image", x.image(k), true);
            Check.take(x, 0, "guests 3;");
            for (int other = -2; other < 6; other++) {
                Check.due("an image that can't be", other < 0 || other > 2 ? x.image(other) : false, false);
                if (other != k) {
                    Check.due("none such", x.again(other), false);
                    Check.due("nothing changes", x.count(0), 1);
                }
            }
            for (int other : FAR) {
                Check.due("no image", x.image(other), false);
                Check.due("none such", x.again(other), false);
            }
            Check.due("nothing changes", x.count(0), 1);
            Check.due("again", x.again(k), true);
            Check.due("as it was", x.count(0), 0);
            Check.due("again, and again", x.again(k), true);
        }
    }

    /** "all that is told (the tape, the FAULT, too), as it is now": each of its parts, at both places. */
    private static void imageOfAll() {
        GrainInn x = full();
        Check.take(x, 0, 0, "guests 9;");
        Check.feed(x, "guests 2;");
        Check.due("image", x.image(0), true);
        GrainInn y = full();
        Check.due("another object has no such image", y.again(0), false);
        x.text(0, 1);
        for (int sort = 0; sort < 4; sort++) {
            Check.take(x, sort, 0, "");
            Check.take(x, sort, 1, "");
        }
        Check.feed(x, "some other signs that are more of them;");
        Check.due("again", x.again(0), true);
        Check.due("the fault", x.fault(0), 2);
        Check.due("its place", x.fault(1), 7);
        Check.due("the tape", x.end(10), -1);
        for (int at = 0; at < 2; at++) {
            for (int what = 0; what < 60; what++) {
                Check.due("inn " + at + " what " + what, x.inn(at, what), y.inn(0, what));
            }
            Check.due("evenings " + at, x.stop(0, at), STOP);
            Check.due("deeds of " + at, x.deed(at, -1, 0), 6);
            Check.due("wishes " + at, x.wish(at, 1, 1), 2);
            Check.due("hearing " + at, x.heard(at, 1), 1);
        }
        Check.due("the text of the tape", x.text(0, 0), 0);
        Check.due("its guests", x.inn(0, 1), 2);
        Check.due("again behind it", x.again(0), true);
        Check.due("the guests as they were", x.inn(0, 1), 5);
    }

    private static void againLeavesTheOthers() {
        GrainInn x = new GrainInn();
        for (int k = 0; k < 3; k++) {
            Check.take(x, 1, k == 0 ? -1 : 0, "night;".repeat(k + 1));
            Check.due("image " + k, x.image(k), true);
        }
        for (int k : new int[] {0, 2, 1, 2, 0}) {
            Check.due("again " + k, x.again(k), true);
            Check.due("deeds of " + k, x.deed(0, -1, 0), k + 1);
        }
        Check.due("image 2 anew", x.image(2), true);
        Check.due("again 1", x.again(1), true);
        Check.due("deeds of 1", x.deed(0, -1, 0), 2);
        Check.due("again 2", x.again(2), true);
        Check.due("deeds of the newer 2", x.deed(0, -1, 0), 1);
    }
}
