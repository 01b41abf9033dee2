/** Promises 15, 18, 19, 21 to 24, 27: cuts, games, councils, years by a seed, who met whom, ghosts, weddings. */
final class PeopleTest {
    private static final int NO_SUM = -1000000;

    public static void main(String[] args) {
        cuts();
        cutsOfOneWithBoth();
        cutsThatAreNot();
        gain();
        gainOfPasts();
        rest();
        gameThatIsNot();
        council();
        split();
        drawn();
        drawnNumbers();
        drawnThatIsNot();
        met();
        gossip();
        ghosts();
        weddings();
        weddingsOfPasts();
        weddingsThatAreNot();
        Check.finish();
    }

    private static GrainInn known() {
        return Check.with(StateTest.INN, StateTest.EVENINGS);
    }

    private static void cutsAre(GrainInn x, int n, int table, int cuts, int least, int which) {
        Check.due("cuts of " + table + " behind " + n, x.cuts(0, 0, n, table, 0), cuts);
        Check.due("least of " + table + " behind " + n, x.cuts(0, 0, n, table, 1), least);
        Check.due("which of " + table + " behind " + n, x.cuts(0, 0, n, table, 2), which);
    }

    private static void cuts() {
        GrainInn x = Check.with("table 3 6 0;guests 4;quarrel 0 1;quarrel 2 3;",
            "sit 0 0;night;sit 0 2;night;sit 0 1;night;sit 0 3;night;sit 0 0;night;");
        cutsAre(x, 0, 0, 0, 0, 0);
        cutsAre(x, 1, 0, 0, 0, 0);
        cutsAre(x, 4, 0, 0, 0, 0);
        cutsAre(x, 6, 0, 1, 1, 1);
        cutsAre(x, 8, 0, 1, 2, 3);
        cutsAre(x, 10, 0, 2, 2, 6);
        GrainInn y = known();
        cutsAre(y, 10, 0, 1, 1, 1);
        cutsAre(y, 10, 1, 1, 1, 1);
    }

    private static void cutsOfOneWithBoth() {
        GrainInn x = Check.with("table 3 6 0;guests 3;quarrel 0 1;", "sit 0 2;night;sit 0 0 1;night;sit 0 0;night;");
        cutsAre(x, 2, 0, 0, 0, 0);
        cutsAre(x, 4, 0, -1, 1, 2);
        cutsAre(x, 6, 0, -1, 1, 2);
    }

    private static void cutsThatAreNot() {
        GrainInn x = known();
        cutsAre(x, 10, 2, -1, -1, -1);
        cutsAre(x, 10, -1, -1, -1, -1);
        cutsAre(x, 11, 0, -1, -1, -1);
        Check.due("cuts what 3", x.cuts(0, 0, 10, 0, 3), -1);
        Check.due("cuts what -1", x.cuts(0, 0, 10, 0, -1), -1);
        Check.due("cuts in no inn", x.cuts(1, 0, 10, 0, 1), -1);
    }

    private static GrainInn game() {
        return Check.with("table 2 2 1;table 2 2 0;guests 4;love 0 1;quarrel 0 2;love 0 3;quarrel 0 3;",
            "sit 0 1;night;sit 0 1 2;night;");
    }

    private static void gain() {
        GrainInn x = game();
        Check.due("both love", x.gain(0, 0, 0, 0, 1, 0, 0), 2);
        Check.due("apart", x.gain(0, 0, 0, 0, 1, 0, 1), -1);
        Check.due("both love at 1", x.gain(0, 0, 0, 0, 1, 1, 1), 3);
        Check.due("apart at 1", x.gain(0, 0, 0, 0, 1, 1, 0), 0);
        Check.due("both quarrel", x.gain(0, 0, 0, 0, 2, 0, 0), -4);
        Check.due("both do both", x.gain(0, 0, 0, 3, 0, 1, 1), 0);
        Check.due("neither", x.gain(0, 0, 0, 1, 2, 0, 0), -1);
    }

    private static void gainOfPasts() {
        GrainInn x = game();
        Check.due("one past", x.gain(0, 0, 2, 0, 1, 0, 1), 0);
        Check.due("two pasts", x.gain(0, 0, 4, 0, 1, 0, 1), 0);
        Check.due("two pasts, both", x.gain(0, 0, 4, 0, 1, 0, 0), 3);
        Check.due("a sitting is no past", x.gain(0, 0, 3, 0, 2, 0, 1), 0);
        Check.due("who quarrels", x.gain(0, 0, 4, 2, 1, 0, 1), -1);
        Check.due("the other table", x.gain(0, 0, 4, 0, 1, 1, 0), 0);
    }

    private static void restsAre(GrainInn x, int n, int one, int two, int... rests) {
        Check.due("rests of " + one + " and " + two, x.rest(0, 0, n, one, two, -1), rests.length);
        for (int k = 0; k <= rests.length; k++) {
            Check.due("rest " + k, x.rest(0, 0, n, one, two, k), k < rests.length ? rests[k] : -1);
        }
        Check.due("rest -2", x.rest(0, 0, n, one, two, -2), -1);
    }

    private static void rest() {
        GrainInn x = game();
        restsAre(x, 0, 0, 1, 0, 3);
        restsAre(x, 0, 0, 2, 1, 2);
        restsAre(x, 0, 1, 2, 3);
        GrainInn y = Check.with("table 1 1 5;table 1 1 5;guests 2;", "");
        restsAre(y, 0, 0, 1, 0, 1, 2, 3);
        GrainInn z = Check.with("guests 2;", "");
        restsAre(z, 0, 0, 1);
        GrainInn w = Check.with("table 1 1 0;table 1 1 3;table 1 1 0;guests 2;quarrel 0 1;", "");
        restsAre(w, 0, 0, 1, 2, 6);
    }

    private static void gameThatIsNot() {
        GrainInn x = game();
        Check.due("both are one", x.gain(0, 0, 0, 1, 1, 0, 0), NO_SUM);
        Check.due("no guest 4", x.gain(0, 0, 0, 4, 1, 0, 0), NO_SUM);
        Check.due("no guest -1", x.gain(0, 0, 0, 0, -1, 0, 0), NO_SUM);
        Check.due("no table a", x.gain(0, 0, 0, 0, 1, 2, 0), NO_SUM);
        Check.due("no table b", x.gain(0, 0, 0, 0, 1, 0, 2), NO_SUM);
        Check.due("no table -1", x.gain(0, 0, 0, 0, 1, 0, -1), NO_SUM);
        Check.due("no state", x.gain(0, 0, 5, 0, 1, 0, 0), NO_SUM);
        Check.due("no inn", x.gain(1, 0, 0, 0, 1, 0, 0), NO_SUM);
        for (int k = -1; k < 1; k++) {
            Check.due("rest: both are one", x.rest(0, 0, 0, 1, 1, k), -1);
            Check.due("rest: no guest 4", x.rest(0, 0, 0, 0, 4, k), -1);
            Check.due("rest: no guest -1", x.rest(0, 0, 0, -1, 0, k), -1);
            Check.due("rest: no state", x.rest(0, 0, 5, 0, 1, k), -1);
            Check.due("rest: no evenings", x.rest(0, 1, 0, 0, 1, k), -1);
        }
    }

    private static void councilIs(String inn, int who, int tables) {
        GrainInn x = Check.with(inn, "");
        Check.due("council of " + inn, x.council(0, false), who);
        Check.due("split of " + inn, x.council(0, true), tables);
    }

    private static void council() {
        councilIs(StateTest.INN, 13, 2);
        councilIs("guests 8;", 255, 1);
        councilIs("guests 1;", 1, 1);
        councilIs("guests 4;quarrel 0 1;quarrel 0 2;quarrel 0 3;", 14, 2);
        GrainInn x = Check.with("", "");
        Check.due("no inn", x.council(1, false), -1);
        Check.due("no inn, split", x.council(-1, true), -1);
    }

    private static void split() {
        councilIs("guests 3;quarrel 0 1;quarrel 0 2;quarrel 1 2;", 1, 3);
        councilIs("guests 5;quarrel 0 1;quarrel 1 2;quarrel 2 3;quarrel 3 4;quarrel 4 0;", 5, 3);
        councilIs("guests 6;quarrel 0 3;quarrel 1 4;quarrel 2 5;quarrel 0 4;quarrel 1 5;quarrel 2 3;", 7, 2);
        StringBuilder all = new StringBuilder("guests 8;");
        for (int a = 0; a < 8; a++) {
            for (int b = 0; b < a; b++) {
                all.append("quarrel ").append(a).append(' ').append(b).append(';');
            }
        }
        councilIs(all.toString(), 1, 8);
    }

    private static void drawnIs(GrainInn x, int seed, int nights, int[] whats, int... want) {
        for (int i = 0; i < whats.length; i++) {
            Check.due("drawn " + seed + " " + nights + " " + whats[i], x.drawn(0, seed, nights, whats[i]), want[i]);
        }
    }

    private static void drawn() {
        int[] whats = {0, 1, 2, 3, 10, 20, 30};
        GrainInn x = Check.with("table 1 1 3;guests 1;", "");
        drawnIs(x, 99, 1, whats, 0, 0, 3, 0, 1, 1, 0);
        drawnIs(x, 99, 3, whats, 0, 0, 15, 0, 1, 1, 0);
        drawnIs(x, -5, 40, whats, 0, 0, 3 + 39 * 6, 0, 1, 1, 0);
        GrainInn y = Check.with("table 2 3 1;guests 3;love 0 1;quarrel 0 1;", "");
        drawnIs(y, 7, 1, whats, 0, 0, 2, 1, 3, 3, 0);
        drawnIs(y, 7, 2, whats, 2, 2, 2 + 4, 2, 3, 3, 0);
        drawnIs(y, 7, 3, whats, 4, 4, 2 + 4 + 4, 3, 3, 3, 1);
        Check.due("who did not sit heard nothing", y.drawn(0, 7, 3, 12), 0);
    }

    /** By the seed 1 the numbers shifted are 16838, 5758, 10113, 17515, 31051, 5627, ... */
    private static void drawnNumbers() {
        int x = 1;
        int[] tables = new int[6];
        for (int i = 0; i < 6; i++) {
            x = x * 1103515245 + 12345;
            tables[i] = (x >>> 16) % 3;
        }
        GrainInn y = Check.with("table 8 1 0;table 8 1 0;table 8 1 0;guests 3;", "");
        int[] first = new int[3];
        int[] second = new int[3];
        for (int g = 0; g < 3; g++) {
            first[tables[g]] |= 1 << g;
            second[tables[3 + g]] |= 1 << g;
        }
        for (int t = 0; t < 3; t++) {
            Check.due("first night at " + t, y.drawn(0, 1, 1, 20 + t), first[t]);
            Check.due("second night at " + t, y.drawn(0, 1, 2, 20 + t), second[t] != 0 ? second[t] : first[t]);
        }
        GrainInn z = Check.with("table 8 1 0;table 8 1 0;guests 1;", "");
        Check.due("the highest bit is no sign", z.drawn(0, 4, 1, 20) + 2 * z.drawn(0, 4, 1, 21), drawnOf(4));
        Check.due("another seed", z.drawn(0, -77, 1, 20) + 2 * z.drawn(0, -77, 1, 21), drawnOf(-77));
    }

    private static int drawnOf(int seed) {
        long x = ((seed & 0xffffffffL) * 1103515245L + 12345L) % (1L << 32);
        return (x >> 16) % 2 == 0 ? 1 : 2;
    }

    private static void drawnThatIsNot() {
        GrainInn x = Check.with("table 1 1 3;guests 1;", "");
        Check.due("0 nights", x.drawn(0, 1, 0, 0), -2);
        Check.due("-1 nights", x.drawn(0, 1, -1, 0), -2);
        Check.due("41 nights", x.drawn(0, 1, 41, 0), -2);
        Check.due("no inn", x.drawn(1, 1, 1, 0), -2);
        for (int what : new int[] {-1, 4, 9, 11, 18, 21, 29, 31, Integer.MAX_VALUE, Integer.MIN_VALUE}) {
            Check.due("drawn what " + what, x.drawn(0, 1, 1, what), -2);
        }
        Check.take(x, 0, "guests 3;");
        Check.due("no tables", x.drawn(1, 1, 1, 0), -2);
        Check.take(x, 0, 1, "table 1 1 0;table 1 1 0;guests 1;");
        Check.due("a table of no past", x.drawn(1, 0, 1, 21), 0);
        Check.due("its turn", x.drawn(1, 0, 1, 31), 0);
    }

    private static void met() {
        GrainInn x = known();
        int[][] want = {{0, 0, 0, 0}, {4, 0, 1, 0}, {4, 0, 1, 0}, {4, 0, 1, 0}, {4, 0, 1, 0}, {14, 13, 11, 7}};
        for (int n = 0; n < want.length; n++) {
            for (int g = 0; g < 4; g++) {
                Check.due("met by " + g + " behind " + n, x.met(0, 0, n, g, -1), want[n][g]);
            }
        }
        Check.due("no guest", x.met(0, 0, 0, 4, -1), -2);
        Check.due("no guest -1", x.met(0, 0, 0, -1, -1), -2);
        Check.due("no state", x.met(0, 0, 11, 0, -1), -2);
        Check.due("no inn", x.met(1, 0, 0, 0, -1), -2);
        Check.due("no other", x.met(0, 0, 0, 0, 4), -2);
        Check.due("no other -2", x.met(0, 0, 0, 0, -2), -2);
    }

    private static void gossip() {
        GrainInn x = Check.with("table 2 1 0;guests 6;", "sit 0 0 1;night;sit 0 2;night;sit 0 3;night;sit 0 5;night;sit 0 5;night;");
        Check.due("to himself", x.met(0, 0, 6, 4, 4), 0);
        Check.due("at one table", x.met(0, 0, 6, 0, 1), 1);
        Check.due("by a past", x.met(0, 0, 6, 0, 2), 1);
        Check.due("the other way round", x.met(0, 0, 6, 2, 0), 1);
        Check.due("two steps", x.met(0, 0, 6, 0, 3), 2);
        Check.due("two steps back", x.met(0, 0, 6, 3, 0), 2);
        Check.due("three steps", x.met(0, 0, 8, 1, 5), 3);
        Check.due("never", x.met(0, 0, 8, 0, 4), -1);
        Check.due("himself is none", x.met(0, 0, 10, 5, -1), 8);
    }

    private static void ghostsAre(GrainInn x, int n, int... want) {
        for (int what = 0; what < 4; what++) {
            Check.due("ghosts " + what + " behind " + n, x.ghosts(0, 0, n, what), want[what]);
        }
    }

    private static void ghosts() {
        GrainInn x = known();
        ghostsAre(x, 0, -1, -1, 0, 0);
        ghostsAre(x, 3, -1, -1, 0, 0);
        ghostsAre(x, 4, 0, 1, 0, 2);
        ghostsAre(x, 8, 0, 2, 0, 4);
        ghostsAre(x, 10, 0, 2, 0, 3);
        ghostsAre(x, 11, -2, -2, -2, -2);
        Check.due("ghosts what 4", x.ghosts(0, 0, 10, 4), -2);
        Check.due("ghosts what -1", x.ghosts(0, 0, 10, -1), -2);
        Check.due("ghosts of no inn", x.ghosts(1, 0, 0, 0), -2);
        ghostsAre(Check.with("", ""), 0, -1, -1, -1, -1);
        GrainInn y = Check.with("table 1 3 0;table 2 3 0;guests 4;", "sit 0 3;sit 1 1 2;night;sit 0 2;night;sit 0 2;night;");
        ghostsAre(y, 3, 1, 1, 1, 2);
        ghostsAre(y, 5, 2, 2, 0, 2);
        ghostsAre(y, 7, 2, 3, 0, 2);
    }

    private static void weddingsAre(GrainInn x, int n, int most, int... couples) {
        Check.due("weddings behind " + n, x.weddings(0, 0, n, 0), most);
        for (int t = 0; t < couples.length; t++) {
            Check.due("wedding at " + t + " behind " + n, x.weddings(0, 0, n, 10 + t), couples[t]);
        }
        Check.due("wedding at no table", x.weddings(0, 0, n, 10 + couples.length), -2);
    }

    private static void weddings() {
        GrainInn x = Check.with("table 2 2 0;table 1 2 0;table 2 2 0;guests 5;love 0 1;love 1 2;love 4 3;quarrel 0 4;", "");
        weddingsAre(x, 0, 2, 1, -1, 28);
        GrainInn y = Check.with("table 2 2 0;table 2 2 0;guests 2;love 0 1;quarrel 0 1;", "");
        weddingsAre(y, 0, 1, 1, -1);
        GrainInn z = Check.with("table 2 2 0;table 2 2 0;guests 4;love 1 2;love 0 1;love 2 3;", "");
        weddingsAre(z, 0, 2, 1, 19);
        weddingsAre(Check.with("table 8 1 1;guests 8;", ""), 0, 0, -1);
        weddingsAre(Check.with("love 0 1;", ""), 0, 0);
        StringBuilder all = new StringBuilder("table 2 1 0;".repeat(5) + "guests 8;");
        for (int a = 0; a < 8; a++) {
            for (int b = 0; b < a; b++) {
                all.append("love ").append(a).append(' ').append(b).append(';');
            }
        }
        weddingsAre(Check.with(all.toString(), ""), 0, 4, 1, 19, 37, 55, -1);
    }

    private static void weddingsOfPasts() {
        GrainInn x = Check.with("table 2 2 0;table 1 2 0;table 2 2 0;guests 5;love 0 1;love 1 2;love 3 4;quarrel 0 4;",
            "sit 0 4;night;sit 2 0;night;");
        weddingsAre(x, 1, 2, 1, -1, 28);
        weddingsAre(x, 2, 2, 10, -1, 28);
        weddingsAre(x, 4, 2, 28, -1, 1);
    }

    private static void weddingsThatAreNot() {
        GrainInn x = known();
        Check.due("no state", x.weddings(0, 0, 11, 0), -2);
        Check.due("no inn", x.weddings(1, 0, 0, 0), -2);
        for (int what : new int[] {-1, 1, 9, 12, Integer.MAX_VALUE, Integer.MIN_VALUE}) {
            Check.due("weddings what " + what, x.weddings(0, 0, 10, what), -2);
        }
    }
}
