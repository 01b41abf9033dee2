/** Promises 6 to 11: an inn, deeds, where they stop, states, guests, pasts. */
final class StateTest {
    static final String INN = "table 3 2 2;table 2 3 1;guests 4;quarrel 0 1;love 0 2;love 1 3;";
    static final String EVENINGS =
        "sit 0 0 2;say 0 5;sit 1 1;night;sit 0 1 3;say 3 7;sit 1 0;night;sit 0 0;night;";
    private static final int NO_SUM = -1000000;

    public static void main(String[] args) {
        inn();
        innOfNoTables();
        deed();
        stop();
        stopAtWhatCannotBe();
        state();
        stateThatIsNot();
        strifeAndJoyOfEachCouple();
        guest();
        debts();
        chains();
        guestThatIsNot();
        past();
        nightForgets();
        turnGoesRound();
        scrub();
        join();
        joinTurn();
        split();
        splitForgets();
        Check.finish();
    }

    private static void inn() {
        GrainInn x = Check.with(INN, "");
        Check.due("tables", x.inn(0, 0), 2);
        Check.due("guests", x.inn(0, 1), 4);
        Check.due("seats of 0", x.inn(0, 10), 3);
        Check.due("seats of 1", x.inn(0, 11), 2);
        Check.due("seats of 2", x.inn(0, 12), -1);
        Check.due("keeps of 0", x.inn(0, 20), 2);
        Check.due("keeps of 1", x.inn(0, 21), 3);
        Check.due("keeps of 2", x.inn(0, 22), -1);
        Check.due("price of 0", x.inn(0, 30), 2);
        Check.due("price of 1", x.inn(0, 31), 1);
        Check.due("price of 2", x.inn(0, 32), -1);
        Check.due("0 quarrels", x.inn(0, 40), 2);
        Check.due("1 quarrels", x.inn(0, 41), 1);
        Check.due("2 quarrels", x.inn(0, 42), 0);
        Check.due("4 quarrels", x.inn(0, 44), -1);
        Check.due("0 loves", x.inn(0, 50), 4);
        Check.due("1 loves", x.inn(0, 51), 8);
        Check.due("2 loves", x.inn(0, 52), 1);
        Check.due("3 loves", x.inn(0, 53), 2);
        Check.due("4 loves", x.inn(0, 54), -1);
        for (int what : new int[] {-1, 2, 9, 15, 19, 39, 48, 60, Integer.MAX_VALUE, Integer.MIN_VALUE}) {
            Check.due("inn what " + what, x.inn(0, what), -1);
        }
        Check.due("no inn 1", x.inn(1, 0), -1);
        Check.due("no inn -1", x.inn(-1, 0), -1);
        Check.take(x, 0, "quarrel 0 1;love 0 1;love 2 1;guests 3;guests 5;");
        Check.due("later guests strike", x.inn(1, 1), 5);
        Check.due("both", x.inn(1, 40), 2);
        Check.due("both, love", x.inn(1, 50), 2);
        Check.due("further ones", x.inn(1, 51), 5);
    }

    private static void innOfNoTables() {
        GrainInn x = Check.with("", "sit 0 0;");
        Check.due("tables", x.inn(0, 0), 0);
        Check.due("seats", x.inn(0, 10), -1);
        Check.due("stop", x.stop(0, 0), 0);
        Check.due("table's pasts", x.state(0, 0, 0, 10), -2);
        Check.due("nobody sits", x.state(0, 0, 0, 4), 0);
    }

    private static void deed() {
        GrainInn x = Check.with("", "sit 3 7 0 2;say 6 9;night;scrub 4;join 1 2;split 3 0;");
        int[][] want = {{0, 3, 133}, {1, 6, 9}, {2, -1, -1}, {3, 4, -1}, {4, 1, 2}, {5, 3, 0}};
        Check.due("how many", x.deed(0, -1, 0), 6);
        Check.due("how many, what 1", x.deed(0, -1, 1), -2);
        for (int k = 0; k < want.length; k++) {
            for (int what = 0; what < 3; what++) {
                Check.due("deed " + k + " " + what, x.deed(0, k, what), want[k][what]);
            }
            Check.due("deed what 3", x.deed(0, k, 3), -2);
            Check.due("deed what -1", x.deed(0, k, -1), -2);
        }
        Check.due("deed 6", x.deed(0, 6, 0), -2);
        Check.due("deed -2", x.deed(0, -2, 0), -2);
        Check.due("evenings 1", x.deed(1, -1, 0), -2);
        Check.due("evenings -1", x.deed(-1, 0, 0), -2);
        Check.take(x, 1, "");
        Check.due("no deeds", x.deed(1, -1, 0), 0);
    }

    private static void stop() {
        GrainInn x = Check.with(INN, EVENINGS);
        Check.due("all can be", x.stop(0, 0), 10);
        Check.due("no inn", x.stop(1, 0), -1);
        Check.due("no evenings", x.stop(0, 1), -1);
        Check.due("no inn -1", x.stop(-1, 0), -1);
        Check.due("no evenings -1", x.stop(0, -1), -1);
    }

    private static void stops(String evenings, int want) {
        Check.stops("table 2 4 1;table 2 2 0;table 1 1 0;guests 3;", evenings, want);
    }

    private static void stopAtWhatCannotBe() {
        String two = "sit 0 0;night;sit 0 1;night;";
        stops("", 0);
        stops("sit 3 0;", 0);
        stops("sit 0 3;", 0);
        stops("sit 0 0 3;", 0);
        stops("sit 0 0;sit 1 0;", 1);
        stops("sit 0 0;sit 1 1 0;", 1);
        stops("sit 0 0;sit 0 1;", 1);
        stops("sit 2 0 1;", 0);
        stops("sit 0 0 1;", 1);
        stops("sit 0 0 1 2;", 0);
        stops("say 0 0;", 0);
        stops("sit 0 0;say 1 0;", 1);
        stops("sit 0 0;say 3 0;", 1);
        stops("sit 0 0;say 0 0;say 0 0;night;say 0 0;", 4);
        stops("night;night;night;", 3);
        stops("scrub 0;", 0);
        stops("scrub 3;", 0);
        stops("sit 0 0;night;scrub 0;", 2);
        stops(two + "scrub 0;scrub 0;", 5);
        stops(two + "sit 0 2;scrub 0;", 5);
        stops(two + "sit 1 2;scrub 0;", 6);
        stops("join 0 3;", 0);
        stops("join 3 0;", 0);
        stops("join 0 1;", 1);
        stops("sit 0 0;join 0 1;", 1);
        stops("sit 1 0;join 0 1;", 1);
        stops("sit 2 0;join 0 1;", 2);
        stops("split 0 1;", 0);
        stops("sit 0 0;night;split 0 1;", 2);
        stops(two + "split 0 3;", 4);
        stops(two + "split 3 0;", 4);
        stops(two + "split 0 1;split 0 2;", 5);
        stops(two + "sit 1 0;split 0 1;", 5);
        stops(two + "sit 0 0;split 0 1;", 5);
        stops(two + "sit 1 0;night;split 0 1;", 6);
        stops(two + "split 0 1;join 0 1;split 0 1;", 7);
    }

    private static void state() {
        GrainInn x = Check.with(INN, EVENINGS);
        // nights, strife, joy, paid, who sits, pasts of both tables, turns, sitters
        int[][] want = {
            {0, 0, 0, 0, 0, 0, 0, 0, 0, 0, 0},
            {0, 0, 0, 4, 5, 0, 0, 0, 0, 5, 0},
            {0, 0, 0, 4, 5, 0, 0, 0, 0, 5, 0},
            {0, 0, 0, 5, 7, 0, 0, 0, 0, 5, 2},
            {1, 0, 0, 5, 0, 1, 1, 0, 0, 0, 0},
            {1, 1, 0, 13, 10, 1, 1, 0, 0, 10, 0},
            {1, 1, 0, 13, 10, 1, 1, 0, 0, 10, 0},
            {1, 2, 0, 15, 11, 1, 1, 0, 0, 10, 1},
            {2, 2, 0, 15, 0, 2, 2, 0, 0, 0, 0},
            {2, 2, 1, 21, 1, 2, 2, 1, 0, 1, 0},
            {3, 2, 1, 21, 0, 2, 2, 0, 0, 0, 0}};
        int[] whats = {0, 1, 2, 3, 4, 10, 11, 20, 21, 30, 31};
        for (int n = 0; n < want.length; n++) {
            for (int i = 0; i < whats.length; i++) {
                Check.due("state " + n + " " + whats[i], x.state(0, 0, n, whats[i]), want[n][i]);
            }
        }
    }

    private static void stateThatIsNot() {
        GrainInn x = Check.with(INN, EVENINGS);
        Check.due("n 11", x.state(0, 0, 11, 0), -2);
        Check.due("n -1", x.state(0, 0, -1, 0), -2);
        Check.due("inn 1", x.state(1, 0, 0, 0), -2);
        Check.due("evenings 1", x.state(0, 1, 0, 0), -2);
        for (int what : new int[] {-1, 5, 9, 12, 19, 22, 29, 32, Integer.MAX_VALUE, Integer.MIN_VALUE}) {
            Check.due("state what " + what, x.state(0, 0, 10, what), -2);
        }
    }

    private static void strifeAndJoyOfEachCouple() {
        GrainInn x = Check.with("table 4 3 1;guests 4;quarrel 0 1;love 0 1;love 2 3;",
            "sit 0 0 1;night;sit 0 1 0 2;night;sit 0 3;night;");
        Check.due("none yet", x.state(0, 0, 2, 1), 0);
        Check.due("strife of (0,1) and (1,0)", x.state(0, 0, 3, 1), 2);
        Check.due("joy of (0,1) and (1,0)", x.state(0, 0, 3, 2), 2);
        Check.due("paid by 0", x.guest(0, 0, 3, 0, 1), 1 + 1 + 2);
        Check.due("paid by 1", x.guest(0, 0, 3, 1, 1), 2);
        Check.due("0 owes himself nothing", x.guest(0, 0, 3, 0, 10), 0);
        Check.due("0 owes 1", x.guest(0, 0, 3, 0, 11), 1);
        Check.due("3 hears of 0 and 1", x.state(0, 0, 5, 2), 2);
    }

    private static void guest() {
        GrainInn x = Check.with(INN, EVENINGS);
        int[][] heard = {{0, 0, 0, 0}, {0, 0, 0, 0}, {32, 0, 32, 0}, {32, 0, 32, 0}, {32, 0, 32, 0},
            {32, 32, 32, 32}, {32, 160, 32, 160}, {32, 160, 32, 160}};
        for (int n = 0; n < heard.length; n++) {
            for (int g = 0; g < 4; g++) {
                Check.due("heard by " + g + " at " + n, x.guest(0, 0, n, g, 0), heard[n][g]);
            }
        }
        int[] paid = {10, 7, 2, 2};
        int[] seats = {1, 0, -1, 0};
        for (int g = 0; g < 4; g++) {
            Check.due("paid by " + g, x.guest(0, 0, 10, g, 1), paid[g]);
            Check.due("seat of " + g, x.guest(0, 0, 7, g, 2), seats[g]);
            Check.due("no seat of " + g, x.guest(0, 0, 8, g, 2), -1);
        }
    }

    private static void debts() {
        GrainInn x = Check.with(INN, EVENINGS);
        int[][] debts = {{0, 1, 2, 0}, {2, 0, 2, 0}, {0, 0, 0, 0}, {0, 0, 0, 0}};
        int[] net = {-1, -3, 4, 0};
        for (int g = 0; g < 4; g++) {
            for (int h = 0; h < 4; h++) {
                Check.due("debt of " + g + " to " + h, x.guest(0, 0, 10, g, 10 + h), debts[g][h]);
            }
            Check.due("net of " + g, x.guest(0, 0, 10, g, 3), net[g]);
        }
    }

    private static void chain(GrainInn x, int n, int guest, int length, int last) {
        Check.due("chain of " + guest + " at " + n, x.guest(0, 0, n, guest, 4), length);
        Check.due("last of " + guest + " at " + n, x.guest(0, 0, n, guest, 5), last);
    }

    private static void chains() {
        GrainInn x = Check.with(INN, EVENINGS);
        chain(x, 0, 3, 1, 3);
        chain(x, 10, 0, 2, 2);
        chain(x, 10, 1, 3, 2);
        chain(x, 10, 2, 1, 2);
        chain(x, 8, 0, 2, 1);
        chain(x, 8, 1, 2, 0);
    }

    private static void guestThatIsNot() {
        GrainInn x = Check.with(INN, EVENINGS);
        Check.due("guest 4", x.guest(0, 0, 10, 4, 0), NO_SUM);
        Check.due("guest -1", x.guest(0, 0, 10, -1, 0), NO_SUM);
        Check.due("n 11", x.guest(0, 0, 11, 0, 0), NO_SUM);
        Check.due("inn 1", x.guest(1, 0, 10, 0, 0), NO_SUM);
        for (int what : new int[] {-1, 6, 9, 14, Integer.MAX_VALUE, Integer.MIN_VALUE}) {
            Check.due("guest what " + what, x.guest(0, 0, 10, 0, what), NO_SUM);
        }
    }

    private static void pastIs(GrainInn x, int n, int table, int k, int guests, int words, int night) {
        String call = "past " + k + " of " + table + " at " + n + ", what ";
        Check.due(call + 0, x.past(0, 0, n, table, k, 0), guests);
        Check.due(call + 1, x.past(0, 0, n, table, k, 1), words);
        Check.due(call + 2, x.past(0, 0, n, table, k, 2), night);
    }

    private static void past() {
        GrainInn x = Check.with(INN, EVENINGS);
        pastIs(x, 8, 0, 0, 5, 32, 0);
        pastIs(x, 8, 0, 1, 10, 128, 1);
        pastIs(x, 8, 1, 0, 2, 0, 0);
        pastIs(x, 8, 1, 1, 1, 0, 1);
        pastIs(x, 10, 0, 0, 10, 128, 1);
        pastIs(x, 10, 0, 1, 1, 0, 2);
        pastIs(x, 10, 0, 2, -1, -1, -1);
        pastIs(x, 10, 2, 0, -1, -1, -1);
        pastIs(x, 10, -1, 0, -1, -1, -1);
        pastIs(x, 10, 0, -1, -1, -1, -1);
        pastIs(x, 11, 0, 0, -1, -1, -1);
        pastIs(x, 1, 0, 0, -1, -1, -1);
        Check.due("past what 3", x.past(0, 0, 10, 0, 0, 3), -1);
        Check.due("past what -1", x.past(0, 0, 10, 0, 0, -1), -1);
        GrainInn y = Check.with("table 2 2 0;guests 2;", "night;sit 0 0 1;say 1 0;say 0 9;say 0 9;night;");
        pastIs(y, 6, 0, 0, 3, 513, 1);
    }

    private static void nightForgets() {
        GrainInn x = Check.with("table 1 1 0;guests 3;", "sit 0 0;night;sit 0 1;night;sit 0 2;night;");
        Check.row(x, 2, 0, 0, 1);
        Check.row(x, 4, 0, 0, 2);
        Check.row(x, 6, 0, 0, 4);
    }

    private static void turnGoesRound() {
        GrainInn x = Check.with("table 1 3 0;guests 6;",
            "sit 0 0;night;sit 0 1;night;sit 0 2;night;sit 0 3;night;sit 0 4;night;");
        Check.row(x, 2, 0, 0, 1);
        Check.row(x, 3, 0, 0, 1);
        Check.row(x, 5, 0, 1, 1, 2);
        Check.row(x, 6, 0, 1, 1, 2, 4);
        Check.row(x, 7, 0, 2, 1, 2, 4);
        Check.row(x, 8, 0, 1, 2, 4, 8);
        Check.row(x, 9, 0, 2, 2, 4, 8);
        Check.row(x, 10, 0, 1, 4, 8, 16);
    }

    private static void scrub() {
        String three = "sit 0 0;night;sit 0 1;night;sit 0 2;night;";
        GrainInn x = Check.with("table 1 3 0;guests 4;", three + "scrub 0;scrub 0;sit 0 3;");
        Check.row(x, 6, 0, 1, 1, 2, 4);
        Check.row(x, 7, 0, 1, 1, 4);
        Check.row(x, 8, 0, 0, 4);
        pastIs(x, 8, 0, 0, 4, 0, 2);
        Check.row(x, 9, 0, 0, 4);
        GrainInn w = Check.with("table 1 3 0;", "sit 0 0;say 0 1;night;sit 0 1;say 1 2;night;sit 0 2;say 2 3;night;scrub 0;");
        pastIs(w, 10, 0, 0, 1, 2, 0);
        pastIs(w, 10, 0, 1, 4, 8, 2);
        GrainInn y = Check.with("table 1 3 0;guests 4;", three + "scrub 0;sit 0 3;");
        Check.row(y, 8, 0, 0, 1, 4);
    }

    private static void join() {
        String row = "sit 0 0;say 0 1;night;sit 0 1;say 1 2;night;sit 0 2;say 2 3;night;";
        GrainInn x = Check.with("table 2 4 1;table 2 2 0;table 1 1 0;guests 3;",
            row + "join 1 0;split 1 0;join 0 1;scrub 0;split 0 2;scrub 0;");
        Check.due("stop", x.stop(0, 0), 13);
        Check.row(x, 9, 0, 1, 1, 2, 4);
        Check.row(x, 10, 0, 0);
        Check.row(x, 10, 1, 0, 2, 4);
        pastIs(x, 10, 1, 0, 2, 4, 1);
        pastIs(x, 10, 1, 1, 4, 8, 2);
        Check.row(x, 11, 0, 0, 2);
        Check.row(x, 11, 1, 0, 4);
        Check.row(x, 12, 0, 0, 2, 4);
        Check.row(x, 12, 1, 0);
        Check.row(x, 13, 0, 0, 4);
        GrainInn y = Check.with("table 2 4 1;table 2 2 0;table 1 1 0;guests 3;", row + "sit 1 0;scrub 0;join 1 0;");
        Check.due("stop of a join to one who sits", y.stop(0, 0), 11);
        Check.row(y, 11, 0, 1, 1, 4);
    }

    private static void joinTurn() {
        StringBuilder five = new StringBuilder();
        for (int g = 0; g < 5; g++) {
            five.append("sit 0 ").append(g).append(";night;");
        }
        GrainInn x = Check.with("table 1 6 0;table 1 6 0;guests 7;", five + "sit 1 5;night;sit 1 6;night;join 0 1;");
        Check.row(x, 14, 0, 3, 1, 2, 4, 8, 16);
        Check.row(x, 15, 0, 2, 2, 4, 8, 16, 32, 64);
        Check.row(x, 15, 1, 0);
        GrainInn y = Check.with("table 1 6 0;table 1 6 0;guests 7;", five + "sit 1 5;night;sit 1 6;night;join 1 0;");
        Check.row(y, 15, 1, 0, 64, 1, 2, 4, 8, 16);
        Check.row(y, 15, 0, 0);
        GrainInn z = Check.with("table 1 6 0;table 1 1 0;guests 7;", five + "sit 1 5;night;join 1 0;");
        Check.row(z, 13, 1, 0, 16);
    }

    private static void split() {
        GrainInn x = Check.with("table 1 6 0;table 1 6 0;guests 5;",
            "sit 0 0;night;sit 0 1;night;sit 0 2;night;sit 0 3;night;sit 0 4;night;split 0 1;");
        Check.row(x, 10, 0, 3, 1, 2, 4, 8, 16);
        Check.row(x, 11, 1, 0, 1, 2);
        Check.row(x, 11, 0, 0, 4, 8, 16);
    }

    private static void splitForgets() {
        GrainInn x = Check.with("table 1 6 0;table 1 1 0;guests 6;",
            "sit 0 0;night;sit 0 1;night;sit 0 2;night;sit 0 3;night;sit 0 4;night;sit 0 5;night;split 0 1;");
        Check.row(x, 13, 1, 0, 4);
        Check.row(x, 13, 0, 0, 8, 16, 32);
    }
}
