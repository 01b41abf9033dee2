/** Promises 14, 16, 17, 20, 25, 26: what comes round, hearings, whispers, what is forgotten, spies. */
final class RoundsTest {
    public static void main(String[] args) {
        comes();
        comesMoreThanOnce();
        comesAtTheSixthSitting();
        comesThatIsNot();
        heard();
        fits();
        fitsOfFaultyHearings();
        fitsOfOneGuest();
        fitsThatIsNot();
        whisper();
        forgets();
        spy();
        spyFourNights();
        spyThatIsNot();
        Check.finish();
    }

    private static GrainInn known() {
        return Check.with(StateTest.INN, StateTest.EVENINGS);
    }

    private static void comesIs(GrainInn x, int n, int table, int word, int first, int last, int often) {
        String call = "comes " + word + " at " + table + " behind " + n + ", what ";
        Check.due(call + 0, x.comes(0, 0, n, table, word, 0), first);
        Check.due(call + 1, x.comes(0, 0, n, table, word, 1), last);
        Check.due(call + 2, x.comes(0, 0, n, table, word, 2), often);
    }

    private static void comes() {
        GrainInn x = known();
        comesIs(x, 0, 0, 5, -1, -1, 0);
        comesIs(x, 2, 0, 5, 1, 2, 2);
        comesIs(x, 8, 0, 5, 1, 1, 1);
        comesIs(x, 8, 0, 7, 2, 2, 1);
        comesIs(x, 9, 0, 7, 1, 1, 1);
        comesIs(x, 9, 0, 5, -1, -1, 0);
        comesIs(x, 10, 0, 7, 1, 1, 1);
        comesIs(x, 10, 1, 7, -1, -1, 0);
        comesIs(x, 10, 0, 0, -1, -1, 0);
    }

    private static void comesMoreThanOnce() {
        GrainInn x = Check.with("table 1 3 0;table 1 6 0;guests 1;", "sit 0 0;say 0 1;night;sit 1 0;say 0 0;say 0 9;night;");
        comesIs(x, 3, 0, 1, 1, 2, 2);
        comesIs(x, 2, 0, 1, 1, 2, 2);
        comesIs(x, 7, 1, 0, 1, 2, 2);
        comesIs(x, 7, 1, 9, 1, 2, 2);
        GrainInn y = Check.with("table 1 2 0;table 1 2 0;guests 2;", "sit 0 0;say 0 1;sit 1 1;night;sit 0 1;say 1 1;night;");
        comesIs(y, 4, 0, 1, 1, 2, 2);
        comesIs(y, 4, 1, 1, -1, -1, 0);
        comesIs(y, 7, 0, 1, 1, 2, 2);
    }

    private static void comesAtTheSixthSitting() {
        StringBuilder row = new StringBuilder();
        for (int word = 0; word < 6; word++) {
            row.append("sit 1 0;say 0 ").append(word).append(";night;");
        }
        GrainInn x = Check.with("table 1 6 0;table 1 6 0;guests 1;", row + "join 0 1;");
        for (int word = 0; word < 6; word++) {
            comesIs(x, 19, 0, word, word + 1, word + 1, 1);
        }
        whisperIs(x, 19, 5, 6, 0);
    }

    private static void comesThatIsNot() {
        GrainInn x = known();
        comesIs(x, 8, 2, 5, -1, -1, -1);
        comesIs(x, 8, -1, 5, -1, -1, -1);
        comesIs(x, 11, 0, 5, -1, -1, -1);
        comesIs(x, 8, 0, 10, -1, -1, -1);
        comesIs(x, 8, 0, -1, -1, -1, -1);
        comesIs(x, 8, 0, 37, -1, -1, -1);
        Check.due("comes what 3", x.comes(0, 0, 8, 0, 5, 3), -1);
        Check.due("comes what -1", x.comes(0, 0, 8, 0, 5, -1), -1);
        Check.due("comes of no inn", x.comes(1, 0, 8, 0, 5, 2), -1);
        Check.due("comes of no evenings", x.comes(0, 1, 8, 0, 5, 2), -1);
    }

    private static void heard() {
        GrainInn x = new GrainInn();
        Check.take(x, 3, "silence;heard 7;heard 0;");
        Check.due("rows", x.heard(0, -1), 3);
        Check.due("row 0", x.heard(0, 0), -1);
        Check.due("row 1", x.heard(0, 1), 7);
        Check.due("row 2", x.heard(0, 2), 0);
        Check.due("row 3", x.heard(0, 3), -2);
        Check.due("row -2", x.heard(0, -2), -2);
        Check.due("hearing 1", x.heard(1, -1), -2);
        Check.due("hearing -1", x.heard(-1, 0), -2);
    }

    private static void fitting(String inn, String hearing, int table, int fits, int tells, int... sure) {
        GrainInn x = new GrainInn();
        Check.due("inn " + inn, Check.take(x, 0, inn), 0);
        Check.due("hearing " + hearing, Check.take(x, 3, hearing), 0);
        Check.due("fits of " + hearing, x.fits(0, 0, table, 0), fits);
        Check.due("tells of " + hearing, x.fits(0, 0, table, 1), tells);
        for (int i = 0; i < 8; i++) {
            Check.due("sure " + i + " of " + hearing, x.fits(0, 0, table, 10 + i), i < sure.length ? sure[i] : -1);
        }
    }

    private static void fits() {
        fitting(StateTest.INN, "silence;heard 2;heard 2;heard 0;", 0, 16, 4, 2, 0, -1, -1);
        fitting(StateTest.INN, "silence;heard 2;heard 2;heard 0;", 1, 16, 4, 2, 0, -1, -1);
        fitting(StateTest.INN, "silence;heard 2;", 0, 4, 1, 2, -1);
        fitting(StateTest.INN, "silence;", 0, 4, 4, -1);
        fitting("table 1 1 0;guests 3;", "silence;heard 1;heard 2;", 0, 3, 3, 1, 2, -1);
        fitting("table 1 6 0;guests 8;", "silence;heard 7;heard 7;heard 1;heard 2;heard 3;heard 4;", 0, 64, 8, 7, 1, 2, 3, 4);
        fitting(StateTest.INN, "", 0, 1, 0);
    }

    private static void fitsOfFaultyHearings() {
        fitting(StateTest.INN, "silence;silence;", 0, 0, 0);
        fitting(StateTest.INN, "heard 1;", 0, 0, 0);
        fitting(StateTest.INN, "heard 1;heard 1;", 0, 0, 0);
        fitting(StateTest.INN, "silence;heard 2;heard 1;", 0, 0, 0);
        fitting(StateTest.INN, "silence;heard 4;", 0, 0, 0);
        fitting(StateTest.INN, "silence;heard 3;silence;", 0, 0, 0);
    }

    private static void fitsOfOneGuest() {
        fitting("table 1 1 0;guests 1;", "silence;heard 0;", 0, 1, 1, 0, 0);
        fitting("table 1 1 0;guests 1;", "silence;", 0, 1, 1, 0);
        fitting("table 1 1 0;guests 1;", "silence;silence;", 0, 0, 0);
    }

    private static void fitsThatIsNot() {
        GrainInn x = known();
        Check.take(x, 3, "silence;");
        Check.due("no inn", x.fits(1, 0, 0, 0), -1);
        Check.due("no hearing", x.fits(0, 1, 0, 0), -1);
        Check.due("no table", x.fits(0, 0, 2, 0), -1);
        Check.due("no table -1", x.fits(0, 0, -1, 0), -1);
        for (int what : new int[] {-1, 2, 9, 11, Integer.MAX_VALUE, Integer.MIN_VALUE}) {
            Check.due("fits what " + what, x.fits(0, 0, 0, what), -1);
        }
    }

    private static void whisperIs(GrainInn x, int n, int word, int sittings, int table) {
        Check.due("whisper of " + word + " behind " + n, x.whisper(0, 0, n, word, false), sittings);
        Check.due("its table", x.whisper(0, 0, n, word, true), table);
    }

    private static void whisper() {
        GrainInn x = known();
        whisperIs(x, 8, 5, 1, 0);
        whisperIs(x, 8, 7, 2, 0);
        whisperIs(x, 8, 1, -1, -1);
        whisperIs(x, 10, 5, -1, -1);
        whisperIs(x, 8, 10, -1, -1);
        whisperIs(x, 8, -1, -1, -1);
        whisperIs(x, 11, 5, -1, -1);
        Check.due("whisper in no inn", x.whisper(1, 0, 8, 5, false), -1);
        GrainInn y = Check.with("table 1 2 0;table 1 2 0;table 1 2 0;guests 3;",
            "sit 0 0;night;sit 0 0;say 0 4;sit 1 1;say 1 4;sit 2 2;say 2 4;night;");
        whisperIs(y, 9, 4, 1, 1);
    }

    private static void forgets() {
        GrainInn x = known();
        int[][] behind10 = {{2, 3}, {1, 2}, {0, 0}, {1, 0}};
        for (int g = 0; g < 4; g++) {
            for (int t = 0; t < 2; t++) {
                Check.due("forgets " + g + " at " + t, x.forgets(0, 0, 10, t, g), behind10[g][t]);
            }
        }
        Check.due("of a night to come", x.forgets(0, 0, 9, 0, 0), 2);
        Check.due("forgotten by a night to come", x.forgets(0, 0, 9, 0, 2), 0);
        Check.due("sits there now", x.forgets(0, 0, 1, 0, 2), 2);
        Check.due("never there", x.forgets(0, 0, 0, 0, 0), 0);
        Check.due("no table", x.forgets(0, 0, 10, 2, 0), -1);
        Check.due("no table -1", x.forgets(0, 0, 10, -1, 0), -1);
        Check.due("no guest", x.forgets(0, 0, 10, 0, 4), -1);
        Check.due("no guest -1", x.forgets(0, 0, 10, 0, -1), -1);
        Check.due("no state", x.forgets(0, 0, 11, 0, 0), -1);
        GrainInn y = Check.with("table 1 6 0;", "sit 0 0;night;");
        Check.due("six", y.forgets(0, 0, 2, 0, 0), 6);
    }

    private static void spyIs(GrainInn x, int n, int words, int... row) {
        Check.due("spy for " + words + " behind " + n, x.spy(0, 0, n, words, 0), row.length);
        for (int i = 0; i < 6; i++) {
            Check.due("night " + i, x.spy(0, 0, n, words, 10 + i), i < row.length ? row[i] : -1);
        }
    }

    private static void spyIsNot(GrainInn x, int n, int words) {
        Check.due("spy for " + words + " behind " + n, x.spy(0, 0, n, words, 0), -1);
        Check.due("no night", x.spy(0, 0, n, words, 10), -1);
    }

    private static void spy() {
        GrainInn x = Check.with("table 1 2 0;table 1 2 0;guests 2;", "sit 0 0;say 0 1;sit 1 1;say 1 2;night;sit 0 1;say 1 1;night;");
        spyIs(x, 0, 0);
        spyIs(x, 5, 0);
        spyIs(x, 5, 2, 0);
        spyIs(x, 5, 4, 1);
        spyIs(x, 5, 6, 0, 1);
        spyIsNot(x, 5, 8);
        spyIsNot(x, 0, 2);
        spyIs(x, 8, 6, 0, 1);
    }

    private static void spyFourNights() {
        StringBuilder row = new StringBuilder();
        for (int word = 0; word < 5; word++) {
            row.append("sit 1 0;say 0 ").append(word).append(";night;");
        }
        GrainInn x = Check.with("table 1 6 0;table 1 6 0;guests 1;", row + "join 0 1;");
        spyIs(x, 16, 1, 0);
        spyIs(x, 16, 4, 0, 0, 0);
        spyIs(x, 16, 15, 0, 0, 0, 0);
        spyIsNot(x, 16, 16);
        GrainInn y = Check.with("guests 1;", "");
        spyIs(y, 0, 0);
        spyIsNot(y, 0, 1);
    }

    private static void spyThatIsNot() {
        GrainInn x = known();
        spyIsNot(x, 9, 0);
        spyIsNot(x, 11, 0);
        spyIsNot(x, 10, 1024);
        spyIsNot(x, 10, -1);
        spyIs(x, 10, 128, 0);
        Check.due("spy in no inn", x.spy(1, 0, 10, 0, 0), -1);
        for (int what : new int[] {-1, 1, 9, 11, Integer.MAX_VALUE, Integer.MIN_VALUE}) {
            Check.due("spy what " + what, x.spy(0, 0, 10, 128, what), -1);
        }
    }
}
