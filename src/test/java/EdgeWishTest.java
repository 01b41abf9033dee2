/** Terms 3 and 4 and promises 12 to 19: each sentence that names an edge has a test of its own, in their order. */
final class EdgeWishTest {
    private static final String FIVE = "table 8 6 0;".repeat(5);

    public static void main(String[] args) {
        numbersOfWishes();
        tenWishes();
        nobodySits();
        atMostSixGuests();
        allSitDown();
        noMoreThanSeats();
        guestZeroFirst();
        hearAndShunOfThePastAtItsTurn();
        hearAndShunWithoutPast();
        apartAndBeside();
        guestThatIsNotThere();
        inNoWay();
        harmOfPastsAndOfNow();
        paidForAllWhoSitAndForPasts();
        leastHarmThenLeastPaidThenFirst();
        comesAtTheNextOne();
        comesForTheLastTime();
        comesRound();
        comesBehindANight();
        comesNever();
        fewestCuts();
        cutsOfOnePastWithBoth();
        cutsWithoutPasts();
        leastOfSeveral();
        rowsOfAHearing();
        silenceIsNoPast();
        fitsByRows();
        fitsOfOneKept();
        sureInAll();
        tellsNoPastOrNoRow();
        heardWhoIsNoGuest();
        gainOfEachPast();
        gainAtOneTable();
        restsByWhichNeitherGains();
        restsByNumbers();
        Check.finish();
    }

    private static GrainInn wishing(String inn, String evenings, String wishes) {
        GrainInn x = Check.with(inn, evenings);
        Check.due("wishes " + wishes, Check.take(x, 2, wishes), 0);
        return x;
    }

    /** HARM, PAID, the ways, and the row of the best one; no row if there are none. */
    private static void best(GrainInn x, int n, int harm, int paid, int ways, int... row) {
        String call = "seats behind " + n + ", what ";
        Check.due(call + 0, x.seats(0, 0, n, 0, 0), harm);
        Check.due(call + 1, x.seats(0, 0, n, 0, 1), paid);
        Check.due(call + 2, x.seats(0, 0, n, 0, 2), ways);
        for (int g = 0; g < 8; g++) {
            Check.due(call + (10 + g), x.seats(0, 0, n, 0, 10 + g), g < row.length ? row[g] : -1);
        }
    }

    private static void none(GrainInn x, int n) {
        best(x, n, -1, -1, 0);
    }

    private static void refused(GrainInn x, int n) {
        best(x, n, -1, -1, -1);
    }

    private static void numbersOfWishes() {
        GrainInn x = wishing("", "", "hear 0 9;hear 7 0;shun 7 9;shun 0 0;apart 0 7;apart 7 0;beside 7 6;beside 0 1;");
        int[][] want = {{0, 0, 9}, {0, 7, 0}, {1, 7, 9}, {1, 0, 0}, {2, 0, 7}, {2, 7, 0}, {3, 7, 6}, {3, 0, 1}};
        for (int k = 0; k < want.length; k++) {
            for (int what = -1; what < 4; what++) {
                Check.due("wish(" + k + ", " + what + ")", x.wish(0, k, what), what < 0 || what > 2 ? -2 : want[k][what]);
            }
        }
        for (int k : new int[] {-2, 8, 9, Integer.MAX_VALUE, Integer.MIN_VALUE}) {
            Check.due("wish(" + k + ", 0)", x.wish(0, k, 0), -2);
        }
        Check.due("how many", x.wish(0, -1, 0), 8);
        for (int what : new int[] {-1, 1, 2, 3}) {
            Check.due("wish(-1, " + what + ")", x.wish(0, -1, what), -2);
        }
    }

    /** "WISHES are a row, at most 10": the tenth one counts, too. */
    private static void tenWishes() {
        String nine = "shun 0 0;shun 0 1;shun 0 2;shun 0 3;shun 0 4;shun 0 5;shun 0 6;shun 0 7;shun 0 8;";
        best(wishing(FIVE + "guests 2;", "", nine + "apart 1 0;"), 0, 0, 0, 20, 0, 1);
        none(wishing(FIVE + "guests 2;", "", nine + "hear 1 0;"), 0);
    }

    /** "in a STATE in which nobody sits": not at one table even; behind the night it may be. */
    private static void nobodySits() {
        GrainInn x = wishing(FIVE + "guests 2;", "sit 4 1;night;", "");
        best(x, 0, 0, 0, 25, 0, 0);
        refused(x, 1);
        best(x, 2, 0, 0, 25, 0, 0);
    }

    /** "of at most 6 GUESTS" */
    private static void atMostSixGuests() {
        int ways = 1;
        for (int guests = 1; guests <= 8; guests++) {
            ways *= 2;
            GrainInn x = wishing("table 8 1 0;table 8 1 0;guests " + guests + ";", "", "");
            if (guests <= 6) {
                best(x, 0, 0, 0, ways, new int[guests]);
            } else {
                refused(x, 0);
            }
        }
    }

    /** "all sit down, each at a TABLE": without tables there is no way. */
    private static void allSitDown() {
        none(wishing("guests 1;", "", ""), 0);
        best(wishing("table 1 1 7;guests 1;", "", ""), 0, 0, 7, 1, 0);
        none(wishing("table 1 1 7;guests 2;", "", ""), 0);
        best(wishing("table 8 1 0;".repeat(5) + "guests 6;", "", ""), 0, 0, 0, 15625, 0, 0, 0, 0, 0, 0);
    }

    /** "no more than SEATS at one" */
    private static void noMoreThanSeats() {
        best(wishing("table 1 1 0;table 2 1 0;guests 3;", "", ""), 0, 0, 0, 3, 0, 1, 1);
        best(wishing("table 3 1 0;guests 3;", "", ""), 0, 0, 0, 1, 0, 0, 0);
        none(wishing("table 2 1 0;guests 3;", "", ""), 0);
        best(wishing("table 1 1 0;".repeat(5) + "guests 5;", "", ""), 0, 0, 0, 120, 0, 1, 2, 3, 4);
        none(wishing("table 1 1 0;".repeat(5) + "guests 6;", "", ""), 0);
        best(wishing("table 1 1 0;".repeat(4) + "table 2 1 0;guests 6;", "", ""), 0, 0, 0, 360, 0, 1, 2, 3, 4, 4);
    }

    /** "rows of TABLES, guest 0's first", "of these the first" */
    private static void guestZeroFirst() {
        best(wishing("table 4 1 0;table 4 1 0;guests 2;", "", "apart 0 1;"), 0, 0, 0, 2, 0, 1);
        best(wishing("table 1 1 0;table 2 1 0;guests 3;", "", "apart 0 1;"), 0, 0, 0, 2, 0, 1, 1);
        best(wishing("table 4 1 0;table 4 1 0;table 4 1 0;guests 3;", "", "apart 0 2;apart 1 0;"), 0, 0, 0, 12, 0, 1, 1);
    }

    private static String said(int table, int guest, int word) {
        return "sit " + table + " " + guest + ";say " + guest + " " + word + ";night;";
    }

    /** "the PAST that would be REPEATED there has (has not) that WORD": the one at its TURN alone. */
    private static void hearAndShunOfThePastAtItsTurn() {
        String inn = "table 4 6 0;table 4 6 0;guests 1;";
        String evenings = said(0, 0, 0) + said(0, 0, 9) + said(0, 0, 2);
        best(wishing(inn, evenings, "hear 0 9;"), 9, 0, 0, 1, 0);
        none(wishing(inn, evenings, "hear 0 0;"), 9);
        none(wishing(inn, evenings, "hear 0 2;"), 9);
        best(wishing(inn, evenings, "shun 0 9;"), 9, 0, 0, 1, 1);
        best(wishing(inn, evenings, "shun 0 0;"), 9, 0, 0, 2, 0);
        best(wishing(inn, evenings, "shun 0 2;hear 0 9;"), 9, 0, 0, 1, 0);
        none(wishing(inn, evenings, "shun 0 9;hear 0 9;"), 9);
    }

    /** "(no PAST: has not)" */
    private static void hearAndShunWithoutPast() {
        for (int word = 0; word < 10; word++) {
            none(wishing("table 4 6 0;guests 1;", "", "hear 0 " + word + ";"), 0);
            best(wishing("table 4 6 0;guests 1;", "", "shun 0 " + word + ";"), 0, 0, 0, 1, 0);
        }
        best(wishing("table 4 6 0;guests 1;", "sit 0 0;night;", "shun 0 0;"), 2, 0, 0, 1, 0);
        none(wishing("table 4 6 0;guests 1;", "sit 0 0;night;", "hear 0 0;"), 2);
    }

    /** "apart, beside: unlike TABLES, one TABLE", whichever of the two is told first. */
    private static void apartAndBeside() {
        String inn = "table 4 6 0;table 4 6 0;guests 3;";
        best(wishing(inn, "", "apart 0 2;"), 0, 0, 0, 4, 0, 0, 1);
        best(wishing(inn, "", "apart 2 0;"), 0, 0, 0, 4, 0, 0, 1);
        best(wishing(inn, "", "beside 0 2;"), 0, 0, 0, 4, 0, 0, 0);
        best(wishing(inn, "", "beside 2 0;apart 2 1;"), 0, 0, 0, 2, 0, 1, 0);
        best(wishing(inn, "", "apart 0 2;apart 1 2;"), 0, 0, 0, 2, 0, 0, 1);
        best(wishing(inn, "", "apart 2 0;apart 2 1;"), 0, 0, 0, 2, 0, 0, 1);
        best(wishing(inn, "", "beside 0 2;beside 1 2;"), 0, 0, 0, 2, 0, 0, 0);
        best(wishing(inn, "", "beside 2 0;beside 2 1;"), 0, 0, 0, 2, 0, 0, 0);
        none(wishing(inn, "", "beside 2 0;apart 0 2;"), 0);
        none(wishing(inn, "", "apart 0 1;apart 1 2;apart 2 0;"), 0);
        none(wishing("table 4 6 0;guests 2;", "", "apart 0 1;"), 0);
    }

    /** "a guest that is not there: it is not fulfilled" */
    private static void guestThatIsNotThere() {
        for (int guests = 1; guests <= 6; guests++) {
            String inn = "table 8 6 0;table 8 6 0;guests " + guests + ";";
            for (int guest = guests - 1; guest < 8; guest++) {
                boolean there = guest < guests;
                int ways = there ? 1 << guests : 0;
                Check.due("shun of " + guest, wishing(inn, "", "shun " + guest + " 0;").seats(0, 0, 0, 0, 2), ways);
                if (guest > 0) {
                    Check.due("apart " + guest, wishing(inn, "", "apart " + guest + " 0;").seats(0, 0, 0, 0, 2), ways / 2);
                    Check.due("apart 0 " + guest, wishing(inn, "", "apart 0 " + guest + ";").seats(0, 0, 0, 0, 2), ways / 2);
                    Check.due("beside " + guest, wishing(inn, "", "beside " + guest + " 0;").seats(0, 0, 0, 0, 2), ways / 2);
                    Check.due("beside 0 " + guest, wishing(inn, "", "beside 0 " + guest + ";").seats(0, 0, 0, 0, 2), ways / 2);
                }
            }
            none(wishing(inn, "", "apart 6 7;"), 0);
            none(wishing(inn, "", "beside 7 6;"), 0);
        }
        String spoken = said(0, 0, 3);
        best(wishing("table 8 6 0;guests 1;", spoken, "hear 0 3;"), 3, 0, 0, 1, 0);
        none(wishing("table 8 6 0;guests 1;", spoken, "hear 1 3;"), 3);
        none(wishing("table 8 6 0;guests 1;", spoken, "hear 7 3;"), 3);
    }

    /** "NONE: in no way (but 2)" */
    private static void inNoWay() {
        GrainInn x = wishing(FIVE + "guests 6;", "", "apart 0 1;beside 0 1;");
        for (int what = -1; what < 20; what++) {
            Check.due("seats what " + what, x.seats(0, 0, 0, 0, what), what == 2 ? 0 : -1);
        }
    }

    /** "HARM: STRIFE, and couples that QUARREL at one TABLE now": each way with a past, once with each other. */
    private static void harmOfPastsAndOfNow() {
        best(wishing("table 2 1 0;guests 2;quarrel 0 1;", "", ""), 0, 1, 0, 1, 0, 0);
        best(wishing("table 2 1 0;guests 2;quarrel 0 1;", "sit 0 0 1;night;", ""), 2, 3, 0, 1, 0, 0);
        best(wishing("table 2 1 0;guests 2;love 0 1;", "sit 0 0 1;night;", ""), 2, 0, 0, 1, 0, 0);
        GrainInn x = wishing("table 3 1 0;guests 3;quarrel 0 1;quarrel 1 2;quarrel 0 2;", "sit 0 1;night;", "");
        best(x, 0, 3, 0, 1, 0, 0, 0);
        best(x, 2, 5, 0, 1, 0, 0, 0);
        GrainInn y = wishing("table 1 6 0;table 1 6 0;guests 2;quarrel 0 1;", said(0, 1, 0) + said(0, 0, 0), "");
        best(y, 3, 0, 0, 2, 1, 0);
        Check.due("strife of the deeds is none of its harm", y.state(0, 0, 6, 1), 1);
        best(y, 6, 0, 0, 2, 1, 0);
    }

    /** "PAID: PRICE of all who sit, and of all guests of REPEATED PASTS": of tables at which nobody sits, of none. */
    private static void paidForAllWhoSitAndForPasts() {
        best(wishing("table 4 1 9;guests 4;", "", ""), 0, 0, 36, 1, 0, 0, 0, 0);
        best(wishing("table 4 1 9;guests 4;", "sit 0 0 1 2 3;night;", ""), 2, 0, 72, 1, 0, 0, 0, 0);
        best(wishing("table 4 1 1;table 4 1 2;guests 4;", "sit 0 0 1 2 3;night;", ""), 2, 0, 8, 16, 0, 0, 0, 0);
        best(wishing("table 4 1 2;table 4 1 3;guests 4;", "sit 0 0 1 2 3;night;", ""), 2, 0, 12, 16, 1, 1, 1, 1);
        best(wishing("table 4 2 2;table 1 2 0;guests 1;", "sit 0 0;night;", "shun 0 0;"), 2, 0, 0, 2, 1);
    }

    /** "that of the least HARM, of these of the least PAID, of these the first" */
    private static void leastHarmThenLeastPaidThenFirst() {
        best(wishing("table 2 1 0;table 2 1 9;guests 2;quarrel 0 1;", "", ""), 0, 0, 9, 4, 0, 1);
        best(wishing("table 2 1 9;table 2 1 0;guests 2;quarrel 0 1;", "", ""), 0, 0, 9, 4, 0, 1);
        best(wishing("table 2 1 9;table 2 1 8;guests 2;", "", ""), 0, 0, 16, 4, 1, 1);
        best(wishing("table 2 1 9;table 2 1 9;guests 2;", "", ""), 0, 0, 18, 4, 0, 0);
        best(wishing("table 2 1 1;table 2 1 0;table 2 1 0;guests 1;", "", ""), 0, 0, 0, 3, 1);
        best(wishing("table 2 1 0;table 2 1 5;guests 2;quarrel 0 1;", "", "beside 0 1;"), 0, 1, 0, 2, 0, 0);
    }

    private static void comes(GrainInn x, int n, int table, int word, int first, int last, int often) {
        String call = "comes(" + n + ", " + table + ", " + word + ", ";
        Check.due(call + "0)", x.comes(0, 0, n, table, word, 0), first);
        Check.due(call + "1)", x.comes(0, 0, n, table, word, 1), last);
        Check.due(call + "2)", x.comes(0, 0, n, table, word, 2), often);
    }

    /** "(1: the next one)", for every number of sittings kept, the row of pasts being full. */
    private static void comesAtTheNextOne() {
        for (int keeps = 2; keeps <= 6; keeps++) {
            StringBuilder evenings = new StringBuilder();
            for (int k = 0; k < keeps; k++) {
                evenings.append(said(0, 0, k));
            }
            GrainInn x = Check.with("table 1 " + keeps + " 0;guests 1;", evenings.toString());
            for (int k = 0; k < keeps; k++) {
                int at = k - keeps + 3;
                comes(x, 3 * keeps, 0, k, at < 1 ? -1 : at, at < 1 ? -1 : at, at < 1 ? 0 : 1);
            }
        }
        comes(Check.with("table 1 1 0;guests 1;", said(0, 0, 9)), 3, 0, 9, 1, 1, 1);
    }

    /** "for the last time; how often": one past alone is repeated twice, if it is kept so long. */
    private static void comesForTheLastTime() {
        for (int keeps = 1; keeps <= 6; keeps++) {
            GrainInn x = Check.with("table 1 " + keeps + " 0;guests 1;", said(0, 0, 0));
            comes(x, 3, 0, 0, 1, Math.min(keeps, 2), Math.min(keeps, 2));
        }
        GrainInn y = Check.with("table 1 6 0;table 1 6 0;guests 1;",
            said(1, 0, 1) + said(1, 0, 2) + said(1, 0, 1) + said(1, 0, 1) + said(1, 0, 2) + said(1, 0, 1) + "join 0 1;");
        comes(y, 19, 0, 1, 1, 6, 4);
        comes(y, 19, 0, 2, 2, 5, 2);
    }

    /** A turn at the last past goes round to the first one. */
    private static void comesRound() {
        GrainInn x = Check.with("table 1 6 0;guests 1;", said(0, 0, 1) + said(0, 0, 2) + said(0, 0, 3) + "scrub 0;");
        Check.row(x, 10, 0, 1, 1, 1);
        comes(x, 10, 0, 3, 1, 3, 2);
        comes(x, 10, 0, 1, 2, 2, 1);
        comes(x, 10, 0, 2, -1, -1, 0);
    }

    /** "(behind a night, should somebody sit there now)": there, not at another table. */
    private static void comesBehindANight() {
        GrainInn x = Check.with("table 1 1 0;table 1 1 0;guests 2;", said(0, 0, 1) + "sit 1 1;say 1 4;sit 0 0;say 0 2;");
        comes(x, 5, 0, 1, 1, 1, 1);
        comes(x, 5, 1, 4, 1, 1, 1);
        comes(x, 6, 0, 1, -1, -1, 0);
        comes(x, 7, 0, 2, 1, 1, 1);
        comes(x, 7, 0, 4, -1, -1, 0);
        GrainInn y = Check.with("table 1 6 0;guests 1;", "sit 0 0;say 0 9;say 0 0;");
        comes(y, 1, 0, 9, -1, -1, 0);
        comes(y, 2, 0, 9, 1, 2, 2);
        comes(y, 3, 0, 0, 1, 2, 2);
    }

    /** "NONE: never (0, 1)", 0 times then. */
    private static void comesNever() {
        GrainInn x = Check.with("table 1 6 0;guests 1;", "sit 0 0;night;");
        for (int word = 0; word < 10; word++) {
            comes(x, 0, 0, word, -1, -1, 0);
            comes(x, 2, 0, word, -1, -1, 0);
        }
    }

    private static void cuts(GrainInn x, int n, int cuts, int least, int which) {
        Check.due("cuts(" + n + ", 0)", x.cuts(0, 0, n, 0, 0), cuts);
        Check.due("cuts(" + n + ", 1)", x.cuts(0, 0, n, 0, 1), least);
        Check.due("cuts(" + n + ", 2)", x.cuts(0, 0, n, 0, 2), which);
    }

    private static String alone(int... guests) {
        StringBuilder text = new StringBuilder();
        for (int g : guests) {
            text.append("sit 0 ").append(g).append(";night;");
        }
        return text.toString();
    }

    /** "the fewest cuts .. so that no couple that QUARRELS is in one part (be it in unlike PASTS)" */
    private static void fewestCuts() {
        GrainInn x = Check.with("table 1 6 0;quarrel 0 1;love 2 3;", alone(0, 1, 0, 1, 0, 1));
        int[] least = {0, 1, 1, 2, 2, 3};
        int[] which = {0, 1, 2, 5, 10, 21};
        for (int many = 1; many <= 6; many++) {
            cuts(x, 2 * many, many - 1, least[many - 1], which[many - 1]);
        }
        cuts(Check.with("table 1 6 0;quarrel 0 1;", alone(0, 2, 3, 1)), 8, 1, 1, 1);
        cuts(Check.with("table 1 6 0;quarrel 0 1;quarrel 2 3;", alone(0, 2, 1, 3)), 8, 1, 2, 3);
        cuts(Check.with("table 1 6 0;love 0 1;", alone(0, 1, 0, 1)), 8, 0, 0, 0);
        cuts(Check.with("table 1 6 0;guests 8;quarrel 7 6;", alone(7, 6)), 4, 1, 1, 1);
    }

    /** "(NONE: some PAST has both of a couple)": the first one, one between, the last one; LEAST is told all the same. */
    private static void cutsOfOnePastWithBoth() {
        String both = "sit 0 0 1;night;";
        cuts(Check.with("table 2 6 0;quarrel 0 1;", both + alone(2, 3)), 6, -1, 1, 1);
        cuts(Check.with("table 2 6 0;quarrel 0 1;", alone(2) + both + alone(3)), 6, -1, 1, 2);
        cuts(Check.with("table 2 6 0;quarrel 0 1;", alone(2, 3) + both), 6, -1, 1, 4);
        cuts(Check.with("table 2 6 0;quarrel 0 1;", both), 2, -1, 1, 1);
        cuts(Check.with("table 2 6 0;quarrel 0 1;", both.repeat(6)), 12, -1, 6, 63);
        cuts(Check.with("table 2 1 0;quarrel 0 1;", both + alone(2)), 4, 0, 0, 0);
    }

    /** No past, one past, a sitting that is no past yet. */
    private static void cutsWithoutPasts() {
        GrainInn x = Check.with("table 2 6 0;quarrel 0 1;", "sit 0 0;night;sit 0 1;night;");
        cuts(x, 0, 0, 0, 0);
        cuts(x, 1, 0, 0, 0);
        cuts(x, 2, 0, 0, 0);
        cuts(x, 3, 0, 0, 0);
        cuts(x, 4, 1, 1, 1);
        cuts(Check.with("table 2 6 0;quarrel 0 1;", "sit 0 0 1;"), 1, 0, 0, 0);
    }

    /** "which (bits), of several the least" */
    private static void leastOfSeveral() {
        cuts(Check.with("table 1 6 0;quarrel 0 1;", alone(1, 0)), 4, 1, 1, 1);
        cuts(Check.with("table 1 6 0;quarrel 0 1;", alone(2, 0, 1)), 6, 1, 1, 2);
        cuts(Check.with("table 1 6 0;quarrel 0 1;", alone(0, 0, 1)), 6, 1, 1, 4);
        cuts(Check.with("table 1 6 0;quarrel 0 1;", alone(1, 0, 0, 1)), 8, 2, 2, 6);
        cuts(Check.with("table 1 6 0;quarrel 0 1;quarrel 1 2;quarrel 0 2;", alone(2, 1, 0)), 6, 2, 2, 3);
    }

    /** "a guest was heard, 0 .. 7, or nobody", "-2: there is none such (of either)" */
    private static void rowsOfAHearing() {
        GrainInn x = new GrainInn();
        Check.take(x, 3, "silence;heard 0;heard 7;silence;heard 1;heard 2;heard 3;");
        int[] want = {-1, 0, 7, -1, 1, 2, 3};
        Check.due("rows", x.heard(0, -1), 7);
        for (int k = 0; k < 7; k++) {
            Check.due("row " + k, x.heard(0, k), want[k]);
        }
        for (int k : new int[] {-2, 7, 8, Integer.MAX_VALUE, Integer.MIN_VALUE}) {
            Check.due("row " + k, x.heard(0, k), -2);
        }
        Check.take(x, 3, "");
        Check.due("no rows", x.heard(1, -1), 0);
        Check.due("row 0 of none", x.heard(1, 0), -2);
    }

    private static void fits(String inn, String hearing, int fits, int tells, int... sure) {
        GrainInn x = Check.with(inn, "");
        Check.due("hearing " + hearing, Check.take(x, 3, hearing), 0);
        Check.due("fits of " + hearing, x.fits(0, 0, 0, 0), fits);
        Check.due("tells of " + hearing, x.fits(0, 0, 0, 1), tells);
        for (int i = 0; i < 9; i++) {
            Check.due("sure " + i + " of " + hearing, x.fits(0, 0, 0, 10 + i), i < sure.length ? sure[i] : -1);
        }
    }

    /** "(silence: there was no PAST)": at the first row, and at none behind it. */
    private static void silenceIsNoPast() {
        fits("table 1 6 0;", "silence;", 4, 4);
        fits("table 1 6 0;", "heard 0;", 0, 0);
        fits("table 1 6 0;", "silence;silence;", 0, 0);
        fits("table 1 6 0;", "silence;heard 0;silence;", 0, 0);
        fits("table 1 1 0;guests 1;", "silence;heard 0;heard 0;heard 0;heard 0;heard 0;silence;", 0, 0);
    }

    /** "rows of guests by which it was so: how many": a past alone comes round twice, the others once. */
    private static void fitsByRows() {
        fits("table 1 6 0;guests 8;", "", 1, 0);
        fits("table 1 6 0;guests 8;", "silence;", 8, 8);
        fits("table 1 6 0;guests 8;", "silence;heard 7;", 8, 1, 7);
        fits("table 1 6 0;guests 8;", "silence;heard 7;heard 6;", 0, 0);
        fits("table 1 6 0;guests 8;", "silence;heard 7;heard 7;", 64, 8, 7);
        fits("table 1 2 0;guests 8;", "silence;heard 7;heard 7;heard 6;heard 5;heard 7;heard 7;", 64, 8, 7, 6, 5, 7, 7);
        fits("table 1 6 0;guests 8;", "silence;heard 0;heard 0;heard 1;heard 2;heard 3;heard 4;", 64, 8, 0, 1, 2, 3, 4);
    }

    /** KEEPS 1: each row is the sitting before. */
    private static void fitsOfOneKept() {
        fits("table 1 1 0;guests 8;", "silence;heard 0;heard 1;heard 2;heard 3;heard 4;heard 5;", 8, 8, 0, 1, 2, 3, 4, 5);
        fits("table 1 1 0;guests 3;", "silence;heard 2;", 3, 3, 2);
    }

    /** "who sat at a sitting in all of these", "(NONE)" */
    private static void sureInAll() {
        fits("table 1 1 0;guests 1;", "silence;", 1, 1, 0);
        fits("table 1 1 0;guests 1;", "silence;heard 0;heard 0;", 1, 1, 0, 0, 0);
        fits("table 1 1 0;guests 1;", "silence;silence;", 0, 0);
        fits("table 1 6 0;guests 2;", "silence;heard 1;heard 1;heard 0;", 4, 2, 1, 0);
    }

    /** "(0, if there is no PAST then, or no row)" */
    private static void tellsNoPastOrNoRow() {
        fits("table 1 1 0;guests 8;", "", 1, 0);
        fits("table 1 1 0;guests 8;", "heard 7;", 0, 0);
        fits("table 1 1 0;guests 8;", "silence;heard 7;silence;", 0, 0);
    }

    /** A hearing may tell of guests 0 .. 7: of those that the inn has not there is no row. */
    private static void heardWhoIsNoGuest() {
        for (int guests = 1; guests <= 8; guests++) {
            fits("table 1 1 0;guests " + guests + ";", "silence;heard " + (guests - 1) + ";", guests, guests,
                guests == 1 ? new int[] {0, 0} : new int[] {guests - 1});
            if (guests < 8) {
                fits("table 1 1 0;guests " + guests + ";", "silence;heard " + guests + ";", 0, 0);
            }
        }
    }

    private static void gain(GrainInn x, int n, int one, int two, int a, int b, int want) {
        Check.due("gain(" + n + ", " + one + ", " + two + ", " + a + ", " + b + ")", x.gain(0, 0, n, one, two, a, b), want);
    }

    /** "for each guest of each PAST of it 1 if he LOVES him, less 1 if he QUARRELS with him, less PRICE" */
    private static void gainOfEachPast() {
        GrainInn x = Check.with("table 8 6 9;table 8 6 0;guests 8;love 0 2;love 0 3;quarrel 0 3;quarrel 0 4;quarrel 5 6;",
            "sit 0 2 3 4 6;night;sit 0 2 4 0;night;sit 0 2 0;night;");
        gain(x, 0, 0, 1, 0, 1, -9);
        gain(x, 2, 0, 1, 0, 1, 0 - 9);
        gain(x, 4, 0, 1, 0, 1, 0 - 9);
        gain(x, 6, 0, 1, 0, 1, 1 - 9);
        gain(x, 6, 5, 1, 0, 1, -1 - 9);
        gain(x, 6, 2, 1, 0, 1, 2 - 9);
        gain(x, 6, 4, 1, 0, 1, -2 - 9);
        gain(x, 6, 7, 1, 0, 1, -9);
        gain(x, 6, 0, 1, 1, 0, 0);
        gain(x, 5, 0, 1, 0, 1, 0 - 9);
    }

    /** "at one TABLE 3 more if both LOVE, 3 less if both QUARREL" */
    private static void gainAtOneTable() {
        GrainInn x = Check.with("table 1 1 0;table 1 1 0;love 0 1;quarrel 0 2;love 0 3;quarrel 0 3;", "");
        int[][] want = {{0, 1, 3}, {1, 0, 3}, {0, 2, -3}, {2, 0, -3}, {0, 3, 0}, {3, 0, 0}, {1, 2, 0}};
        for (int[] row : want) {
            for (int a = 0; a < 2; a++) {
                gain(x, 0, row[0], row[1], a, a, row[2]);
                gain(x, 0, row[0], row[1], a, 1 - a, 0);
            }
        }
    }

    private static void rests(String inn, int... want) {
        GrainInn x = Check.with(inn, "");
        Check.due("how many of " + inn, x.rest(0, 0, 0, 0, 1, -1), want.length);
        for (int k = 0; k < 26; k++) {
            Check.due("rest " + k + " of " + inn, x.rest(0, 0, 0, 0, 1, k), k < want.length ? want[k] : -1);
        }
        for (int k : new int[] {-2, Integer.MIN_VALUE, Integer.MAX_VALUE}) {
            Check.due("rest " + k, x.rest(0, 0, 0, 0, 1, k), -1);
        }
    }

    /** "by which neither gains by changing alone": as much is no gain; either one's gain is one too many. */
    private static void restsByWhichNeitherGains() {
        rests("guests 2;");
        rests("table 1 1 9;guests 2;", 0);
        rests("table 1 1 9;table 1 1 9;guests 2;", 0, 1, 2, 3);
        rests("table 1 1 1;table 1 1 0;guests 2;", 3);
        rests("table 1 1 3;table 1 1 0;guests 2;love 0 1;", 0, 3);
        rests("table 1 1 4;table 1 1 0;guests 2;love 0 1;", 3);
        rests("table 1 1 3;table 1 1 0;guests 2;quarrel 0 1;", 1, 2, 3);
        rests("table 1 1 4;table 1 1 0;guests 2;quarrel 0 1;", 3);
        rests("table 1 1 0;table 1 1 0;guests 2;quarrel 0 1;", 1, 2);
    }

    /** "couples (as numbers: TABLES times the first's, and the second's)", "the k-th by numbers" */
    private static void restsByNumbers() {
        rests("table 1 1 0;".repeat(5) + "guests 2;love 0 1;", 0, 6, 12, 18, 24);
        rests("table 1 1 0;".repeat(3) + "guests 2;quarrel 0 1;", 1, 2, 3, 5, 6, 7);
        GrainInn x = Check.with("table 1 6 0;table 1 6 0;table 1 6 0;guests 4;love 0 2;love 1 3;", "sit 1 2;sit 2 3;night;");
        Check.due("first's 1, second's 2", x.rest(0, 0, 3, 0, 1, 0), 5);
        Check.due("it alone", x.rest(0, 0, 3, 0, 1, -1), 1);
        Check.due("first's 2, second's 1", x.rest(0, 0, 3, 1, 0, 0), 7);
    }
}
