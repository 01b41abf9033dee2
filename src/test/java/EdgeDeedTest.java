/** Terms 2 and promises 7 to 11: each sentence that names an edge has a test of its own, in their order. */
final class EdgeDeedTest {
    private static final String FOUR = "table 2 3 1;table 1 2 0;table 8 6 9;table 1 1 3;guests 5;";

    public static void main(String[] args) {
        noPastsNobodySitting();
        noPastIsRepeated();
        pastAtItsTurnIsRepeated();
        eachWhoSitsHearsAllItsWords();
        coupleOfOneWhoSitsAndOneOfThatPast();
        turnBehindTheLastOne();
        eachWhoSitsPays();
        leastNumberPaysForThePast();
        debtToThoseWhoAreAnotherOne();
        allWhoSitThereHear();
        eachSittingBecomesAPast();
        allHaveGotUp();
        firstOneIsForgottenBeyondKeeps();
        lastButOneIsForgotten();
        turnBehindTheScrubbedOne();
        joinComesBehind();
        joinForgetsBeyondKeeps();
        joinOfFullTables();
        joinedOneHasNone();
        splitIsCut();
        splitForgetsBeyondKeeps();
        splitLeavesTurnsAt0();
        noSuchTable();
        noSuchGuest();
        whoSitsAlready();
        tableAtWhichSomebodySits();
        moreThanSeats();
        whoDoesNotSit();
        scrubThatCannotBe();
        joinThatCannotBe();
        splitThatCannotBe();
        stopAtTheFirst();
        stopBehindAll();
        stateUpToStop();
        numbersOfDeeds();
        factsOfAState();
        netOfAll();
        chainOfOne();
        chainToTheLeast();
        chainThatGoesRound();
        nightsOfPasts();
        Check.finish();
    }

    private static String nights(int table, int... guests) {
        StringBuilder text = new StringBuilder();
        for (int g : guests) {
            text.append("sit ").append(table).append(' ').append(g).append(";night;");
        }
        return text.toString();
    }

    private static void states(GrainInn x, int n, int what, int want) {
        Check.due("state(" + n + ", " + what + ")", x.state(0, 0, n, what), want);
    }

    private static void guests(GrainInn x, int n, int what, int... want) {
        for (int g = 0; g < want.length; g++) {
            Check.due("guest(" + n + ", " + g + ", " + what + ")", x.guest(0, 0, n, g, what), want[g]);
        }
    }

    /** "EVENINGS of an INN begin with no PASTS, nobody sitting", "a TURN, a place in it (0 at first)" */
    private static void noPastsNobodySitting() {
        GrainInn x = Check.with("table 1 1 9;table 8 6 9;guests 8;quarrel 0 1;", "sit 0 0;night;");
        for (int what : new int[] {0, 1, 2, 3, 4, 10, 11, 20, 21, 30, 31}) {
            states(x, 0, what, 0);
        }
        for (int what : new int[] {0, 1, 3, 10, 17}) {
            guests(x, 0, what, 0, 0, 0, 0, 0, 0, 0, 0);
        }
        guests(x, 0, 2, -1, -1, -1, -1, -1, -1, -1, -1);
        Check.due("no past", x.past(0, 0, 0, 0, 0, 0), -1);
        states(x, 2, 0, 1);
        Check.due("other evenings", Check.take(x, 1, "night;"), 1);
        Check.due("begin anew", x.state(0, 1, 1, 10), 0);
    }

    /** "If it has PASTS": without one nothing is heard, there is no strife, none but PRICE is paid, TURN stays. */
    private static void noPastIsRepeated() {
        GrainInn x = Check.with("table 2 2 3;table 2 2 3;quarrel 0 1;love 0 1;", "sit 0 0 1;sit 1 2;");
        for (int n = 1; n <= 2; n++) {
            states(x, n, 1, 0);
            states(x, n, 2, 0);
            states(x, n, 3, 3 + 3 * n);
            states(x, n, 20, 0);
            guests(x, n, 0, 0, 0, 0);
            guests(x, n, 10, 0, 0, 0);
            guests(x, n, 11, 0, 0, 0);
        }
    }

    /** "the one at its TURN is REPEATED": neither the first nor the last one. */
    private static void pastAtItsTurnIsRepeated() {
        GrainInn x = Check.with("table 1 4 1;guests 5;quarrel 1 4;love 0 4;love 2 4;",
            "sit 0 0;say 0 0;night;sit 0 1;say 1 1;night;sit 0 2;say 2 2;night;sit 0 4;");
        Check.row(x, 9, 0, 1, 1, 2, 4);
        Check.due("the word of the second past alone", x.guest(0, 0, 10, 4, 0), 2);
        states(x, 10, 1, 1);
        states(x, 10, 2, 0);
        guests(x, 10, 10, 0, 1, 1, 0, 0);
        guests(x, 10, 11, 0, 0, 0, 0, 1);
        states(x, 10, 20, 2);
    }

    /** "each guest who sits there now HEARS all its WORDS" */
    private static void eachWhoSitsHearsAllItsWords() {
        GrainInn x = Check.with("table 3 2 0;table 3 2 0;guests 6;",
            "sit 0 0;say 0 0;say 0 9;say 0 4;say 0 4;night;sit 0 1 5 2;sit 1 3;");
        guests(x, 6, 0, 529, 0, 0, 0, 0, 0);
        guests(x, 7, 0, 529, 529, 529, 0, 0, 529);
        guests(x, 8, 0, 529, 529, 529, 0, 0, 529);
    }

    /** "for each couple of one who sits and one of that PAST that QUARREL there is a STRIFE, for each that LOVE a JOY" */
    private static void coupleOfOneWhoSitsAndOneOfThatPast() {
        String couples = "quarrel 0 2;quarrel 0 3;quarrel 1 2;quarrel 0 1;love 1 3;love 0 2;love 2 3;";
        GrainInn x = Check.with("table 4 2 0;" + couples, "sit 0 0 1;night;sit 0 2 3;night;sit 0 2;");
        states(x, 1, 1, 0);
        states(x, 3, 1, 3);
        states(x, 3, 2, 2);
        states(x, 5, 1, 5);
        states(x, 5, 2, 3);
        GrainInn y = Check.with("table 4 1 0;" + couples, "sit 0 0 1;night;sit 0 0 1;night;");
        states(y, 3, 1, 2);
        states(y, 3, 2, 0);
    }

    /** "TURN is the next place then (behind the last one 0)" */
    private static void turnBehindTheLastOne() {
        GrainInn x = Check.with("table 1 4 0;", nights(0, 0, 1, 2, 3) + "scrub 0;scrub 0;sit 0 0;night;sit 0 1;");
        Check.row(x, 8, 0, 2, 1, 2, 4, 8);
        Check.row(x, 9, 0, 2, 1, 2, 8);
        Check.row(x, 10, 0, 1, 1, 8);
        Check.row(x, 11, 0, 0, 1, 8);
        Check.row(x, 12, 0, 0, 1, 8, 1);
        Check.row(x, 13, 0, 1, 1, 8, 1);
        GrainInn y = Check.with("table 1 1 0;", nights(0, 0) + "sit 0 1;");
        Check.row(y, 3, 0, 0, 1);
    }

    /** "Each who sits PAYS PRICE" */
    private static void eachWhoSitsPays() {
        GrainInn x = Check.with("table 8 1 9;table 8 1 0;guests 8;", "sit 0 1 2 4;sit 1 0 3;night;sit 1 5;");
        guests(x, 1, 1, 0, 9, 9, 0, 9, 0, 0, 0);
        guests(x, 4, 1, 0, 9, 9, 0, 9, 0, 0, 0);
        states(x, 4, 3, 27);
    }

    /** "who of them has the least number PAYS, besides, PRICE for each guest of that PAST" */
    private static void leastNumberPaysForThePast() {
        GrainInn x = Check.with("table 8 1 2;guests 8;", "sit 0 0 3 7;night;sit 0 6 2 5;night;sit 0 7 0 5;");
        guests(x, 3, 1, 2, 0, 2 + 3 * 2, 2, 0, 2, 2, 2);
        guests(x, 5, 1, 4 + 3 * 2, 0, 8, 2, 0, 4, 2, 4);
        states(x, 5, 3, 6 + 12 + 12);
    }

    /** "of this a DEBT of his to each of those who is another one" */
    private static void debtToThoseWhoAreAnotherOne() {
        GrainInn x = Check.with("table 8 1 5;guests 8;", "sit 0 2 4 6;night;sit 0 4 2;night;sit 0 4 7;");
        for (int to = 0; to < 8; to++) {
            guests(x, 3, 10 + to, 0, 0, to == 4 || to == 6 ? 5 : 0, 0, 0, 0, 0, 0);
            guests(x, 5, 10 + to, 0, 0, to == 4 || to == 6 ? 5 : 0, 0, to == 2 ? 5 : 0, 0, 0, 0);
        }
        guests(x, 3, 1, 0, 0, 5 + 5 + 15, 0, 5 + 5, 0, 5, 0);
        GrainInn y = Check.with("table 8 1 0;", nights(0, 0, 1));
        guests(y, 4, 10, 0, 0, 0, 0);
    }

    /** "it is said at his sitting, all who sit there HEAR it": he himself, and none at another table. */
    private static void allWhoSitThereHear() {
        GrainInn x = Check.with("table 2 1 0;table 2 1 0;", "sit 0 0 1;sit 1 2;say 1 9;say 2 0;say 1 0;night;");
        guests(x, 3, 0, 512, 512, 0, 0);
        guests(x, 4, 0, 512, 512, 1, 0);
        guests(x, 5, 0, 513, 513, 1, 0);
        Check.due("said at table 0", x.past(0, 0, 6, 0, 0, 1), 513);
        Check.due("said at table 1", x.past(0, 0, 6, 1, 0, 1), 1);
    }

    /** "each sitting becomes the last PAST of its TABLE": a table without one gets none. */
    private static void eachSittingBecomesAPast() {
        GrainInn x = Check.with("table 2 3 0;table 2 3 0;table 2 3 0;", "sit 0 0;sit 1 1 2;night;night;sit 1 3;night;");
        Check.row(x, 2, 0, 0);
        Check.row(x, 3, 0, 0, 1);
        Check.row(x, 3, 1, 0, 6);
        Check.row(x, 3, 2, 0);
        Check.row(x, 4, 1, 0, 6);
        Check.row(x, 6, 0, 0, 1);
        Check.row(x, 6, 1, 0, 6, 8);
        Check.row(x, 6, 2, 0);
    }

    /** "all have got up", what was said is not said at the next sitting. */
    private static void allHaveGotUp() {
        GrainInn x = Check.with("table 2 3 0;table 2 3 0;", "sit 0 0 3;say 0 5;sit 1 1;night;sit 1 0 3;night;");
        states(x, 3, 4, 11);
        states(x, 3, 30, 9);
        states(x, 3, 31, 2);
        guests(x, 3, 2, 0, 1, -1, 0);
        for (int what : new int[] {4, 30, 31}) {
            states(x, 4, what, 0);
        }
        guests(x, 4, 2, -1, -1, -1, -1);
        guests(x, 5, 2, 1, -1, -1, 1);
        Check.due("nothing was said", x.past(0, 0, 6, 1, 1, 1), 0);
    }

    /** "if it has more than KEEPS then, the first one is forgotten (TURN is 1 less, 0 at least)", for every KEEPS. */
    private static void firstOneIsForgottenBeyondKeeps() {
        for (int keeps = 1; keeps <= 6; keeps++) {
            GrainInn x = Check.with("table 1 " + keeps + " 0;", nights(0, 0, 1, 2, 3, 0, 1, 2, 3, 0));
            for (int many = 1; many <= 9; many++) {
                int size = Math.min(many, keeps);
                states(x, 2 * many, 10, size);
                states(x, 2 * many, 20, Math.max(0, size - 2));
                for (int k = 0; k < size; k++) {
                    Check.due("night of past " + k, x.past(0, 0, 2 * many, 0, k, 2), many - size + k);
                    Check.due("guest of past " + k, x.past(0, 0, 2 * many, 0, k, 0), 1 << (many - size + k) % 4);
                }
            }
        }
    }

    /** "scrub: the last PAST but one is forgotten": the last one stays as it was, and those before. */
    private static void lastButOneIsForgotten() {
        GrainInn x = Check.with("table 1 6 0;guests 5;",
            nights(0, 0, 1, 2) + "sit 0 3;say 3 8;night;sit 0 4;say 4 9;night;scrub 0;scrub 0;scrub 0;scrub 0;");
        Check.row(x, 12, 0, 3, 1, 2, 4, 8, 16);
        Check.row(x, 13, 0, 3, 1, 2, 4, 16);
        Check.row(x, 14, 0, 2, 1, 2, 16);
        Check.row(x, 15, 0, 1, 1, 16);
        Check.row(x, 16, 0, 0, 16);
        Check.due("its words", x.past(0, 0, 16, 0, 0, 1), 512);
        Check.due("its night", x.past(0, 0, 16, 0, 0, 2), 4);
        Check.due("words of the first", x.past(0, 0, 13, 0, 3, 1), 512);
        Check.due("night of the last", x.past(0, 0, 13, 0, 3, 2), 4);
    }

    /** "(TURN is 1 less, if it was behind it; 0, if it is behind the last one then)": before it, at it, behind it. */
    private static void turnBehindTheScrubbedOne() {
        GrainInn x = Check.with("table 1 6 0;table 1 6 0;guests 6;",
            nights(0, 0, 1, 2) + nights(1, 3, 4) + "join 0 1;scrub 0;scrub 0;scrub 0;scrub 0;");
        Check.row(x, 11, 0, 1, 1, 2, 4, 8, 16);
        Check.row(x, 12, 0, 1, 1, 2, 4, 16);
        Check.row(x, 13, 0, 1, 1, 2, 16);
        Check.row(x, 14, 0, 1, 1, 16);
        Check.row(x, 15, 0, 0, 16);
        GrainInn y = Check.with("table 1 2 0;", nights(0, 0, 1) + "scrub 0;sit 0 2;");
        Check.row(y, 4, 0, 0, 1, 2);
        Check.row(y, 5, 0, 0, 2);
        Check.row(y, 6, 0, 0, 2);
    }

    /** "join: all PASTS of the second TABLE come behind those of the first one": as many as KEEPS are none too many. */
    private static void joinComesBehind() {
        GrainInn x = Check.with("table 1 5 0;table 1 6 0;guests 5;",
            nights(0, 0, 1, 2) + "sit 1 3;say 3 3;night;" + nights(1, 4) + "join 0 1;join 0 1;join 1 0;");
        Check.row(x, 12, 0, 1, 1, 2, 4, 8, 16);
        Check.row(x, 12, 1, 0);
        Check.due("words come, too", x.past(0, 0, 12, 0, 3, 1), 8);
        Check.due("nights come, too", x.past(0, 0, 12, 0, 4, 2), 4);
        Check.row(x, 13, 0, 1, 1, 2, 4, 8, 16);
        Check.row(x, 14, 1, 0, 1, 2, 4, 8, 16);
        Check.row(x, 14, 0, 0);
    }

    /** "which forgets its first ones, if it has more than KEEPS (TURN less by as many, 0 at least)" */
    private static void joinForgetsBeyondKeeps() {
        for (int keeps = 1; keeps <= 6; keeps++) {
            GrainInn x = Check.with("table 1 6 0;table 1 6 0;table 1 " + keeps + " 0;guests 7;",
                nights(0, 0, 1, 2, 3, 4) + nights(2, 5) + "join 2 0;");
            int gone = Math.max(0, 6 - keeps);
            states(x, 13, 12, 6 - gone);
            states(x, 13, 22, 0);
            for (int k = 0; k < 6 - gone; k++) {
                int guest = gone + k == 0 ? 5 : gone + k - 1;
                Check.due("past " + k + " joined", x.past(0, 0, 13, 2, k, 0), 1 << guest);
            }
        }
        for (int more = 1; more <= 6; more++) {
            GrainInn y = Check.with("table 1 5 0;table 1 6 0;guests 6;",
                nights(0, 0, 1, 2, 3, 4) + nights(1, 5, 5, 5, 5, 5, 5).substring(0, 14 * more) + "join 0 1;");
            int n = 11 + 2 * more;
            states(y, n - 1, 20, 3);
            states(y, n, 10, 5);
            states(y, n, 20, Math.max(0, 3 - more));
            Check.due("first past left", y.past(0, 0, n, 0, 0, 0), more < 5 ? 1 << more : 32);
        }
    }

    /** The longest row that a join makes before it forgets: six and six. */
    private static void joinOfFullTables() {
        StringBuilder both = new StringBuilder();
        for (int i = 0; i < 6; i++) {
            both.append("sit 0 ").append(i).append(";sit 1 ").append(7 - i).append(";night;");
        }
        GrainInn x = Check.with("table 1 6 0;table 1 6 0;guests 8;", both + "join 0 1;");
        Check.row(x, 18, 0, 4, 1, 2, 4, 8, 16, 32);
        Check.row(x, 18, 1, 4, 128, 64, 32, 16, 8, 4);
        Check.row(x, 19, 0, 0, 128, 64, 32, 16, 8, 4);
        Check.row(x, 19, 1, 0);
        for (int k = 0; k < 6; k++) {
            Check.due("night of past " + k, x.past(0, 0, 19, 0, k, 2), k);
        }
    }

    /** "the second one has none, TURN 0" */
    private static void joinedOneHasNone() {
        GrainInn x = Check.with("table 1 6 0;table 1 6 0;", nights(1, 0, 1, 2, 3) + "join 0 1;join 0 1;sit 1 0;");
        Check.row(x, 8, 1, 2, 1, 2, 4, 8);
        Check.row(x, 9, 1, 0);
        Check.row(x, 9, 0, 0, 1, 2, 4, 8);
        Check.row(x, 10, 0, 0, 1, 2, 4, 8);
        Check.row(x, 11, 1, 0);
        GrainInn y = Check.with("table 1 6 0;table 1 6 0;", "join 0 1;join 1 0;");
        Check.due("two empty ones can be joined", y.stop(0, 0), 2);
        Check.row(y, 2, 0, 0);
        Check.row(y, 2, 1, 0);
    }

    /** "split: the first half of the PASTS of the first TABLE (cut) goes to the second one": two to six of them. */
    private static void splitIsCut() {
        for (int size = 2; size <= 6; size++) {
            GrainInn x = Check.with("table 1 6 0;table 1 6 0;guests 6;",
                nights(0, 0, 1, 2, 3, 4, 5).substring(0, 14 * size) + "split 0 1;");
            int half = size / 2;
            int n = 2 * size + 1;
            states(x, n, 10, size - half);
            states(x, n, 11, half);
            for (int k = 0; k < size; k++) {
                int table = k < half ? 1 : 0;
                int place = k < half ? k : k - half;
                Check.due("past " + k + " of " + size, x.past(0, 0, n, table, place, 0), 1 << k);
                Check.due("its night", x.past(0, 0, n, table, place, 2), k);
            }
        }
    }

    /** "which forgets the first of these, if they are more than it KEEPS" */
    private static void splitForgetsBeyondKeeps() {
        int[][] want = {{4}, {2, 4}, {1, 2, 4}, {1, 2, 4}};
        for (int keeps = 1; keeps <= 4; keeps++) {
            GrainInn x = Check.with("table 1 6 0;table 1 " + keeps + " 0;guests 6;", nights(0, 0, 1, 2, 3, 4, 5) + "split 0 1;");
            Check.row(x, 13, 1, 0, want[keeps - 1]);
            Check.row(x, 13, 0, 0, 8, 16, 32);
        }
        GrainInn y = Check.with("table 1 6 0;table 1 1 0;guests 6;", nights(0, 0, 1, 2, 3) + "split 0 1;");
        Check.row(y, 9, 1, 0, 2);
        Check.row(y, 9, 0, 0, 4, 8);
    }

    /** "both TURNS are 0": also that of a second one which stood behind its first place before. */
    private static void splitLeavesTurnsAt0() {
        GrainInn x = Check.with("table 1 6 0;table 1 6 0;guests 6;",
            nights(0, 0, 1, 2, 3, 4) + "split 0 1;sit 0 5;night;");
        Check.row(x, 10, 0, 3, 1, 2, 4, 8, 16);
        Check.row(x, 11, 0, 0, 4, 8, 16);
        Check.row(x, 11, 1, 0, 1, 2);
        Check.row(x, 13, 0, 1, 4, 8, 16, 32);
    }

    /** "A DEED can't be: no such TABLE": each deed's, at both places; of five tables the last one is one. */
    private static void noSuchTable() {
        for (String deed : new String[] {"sit 4 0;", "scrub 4;", "join 4 0;", "join 0 4;", "split 4 0;", "split 0 4;"}) {
            Check.stops(FOUR, "night;" + nights(0, 0, 1) + deed, 5);
        }
        String five = FOUR + "table 1 6 0;";
        Check.stops(five, "sit 4 0;", 1);
        Check.stops(five, nights(4, 0, 1) + "scrub 4;", 5);
        Check.stops(five, nights(4, 0, 1) + "join 4 0;join 0 4;split 0 4;join 4 0;split 4 0;", 9);
        for (String deed : new String[] {"sit 0 0;", "scrub 0;", "join 0 1;", "split 0 1;"}) {
            Check.stops("", "night;" + deed, 1);
        }
    }

    /** "no such .. guest": of a sit, at each place, of a say. */
    private static void noSuchGuest() {
        Check.stops(FOUR, "sit 2 5;", 0);
        Check.stops(FOUR, "sit 2 0 5;", 0);
        Check.stops(FOUR, "sit 2 5 0;", 0);
        Check.stops(FOUR, "sit 2 7;", 0);
        Check.stops(FOUR, "sit 2 4;", 1);
        Check.stops(FOUR, "sit 2 0 1 2 3 4;say 5 0;", 1);
        Check.stops(FOUR, "sit 2 0 1 2 3 4;say 4 0;say 0 9;", 3);
        Check.stops("table 8 1 0;guests 1;", "sit 0 1;", 0);
        Check.stops("table 8 1 0;guests 1;", "sit 0 0;say 0 0;", 2);
        Check.stops("table 8 1 0;guests 8;", "sit 0 0 1 2 3 4 5 6 7;say 7 0;", 2);
    }

    /** "sit: one who sits already", at this table or another one; behind a night he may. */
    private static void whoSitsAlready() {
        Check.stops(FOUR, "sit 0 0 1;sit 2 1;", 1);
        Check.stops(FOUR, "sit 0 0 1;sit 2 3 4 0;", 1);
        Check.stops(FOUR, "sit 0 0 1;sit 2 2;", 2);
        Check.stops(FOUR, "sit 0 0 1;night;sit 2 1 0;", 3);
    }

    /** "a TABLE at which somebody sits", though there are seats left. */
    private static void tableAtWhichSomebodySits() {
        Check.stops(FOUR, "sit 2 0;sit 2 1;", 1);
        Check.stops(FOUR, "sit 2 0;sit 0 1;night;sit 2 1;", 4);
    }

    /** "more than SEATS" */
    private static void moreThanSeats() {
        StringBuilder who = new StringBuilder();
        for (int heads = 1; heads <= 8; heads++) {
            who.append(' ').append(heads - 1);
            for (int seats = 1; seats <= 8; seats++) {
                Check.stops("table " + seats + " 1 1;guests 8;", "sit 0" + who + ";", heads <= seats ? 1 : 0);
            }
        }
    }

    /** "say: who does not sit": never, or not any more, or another one alone. */
    private static void whoDoesNotSit() {
        Check.stops(FOUR, "say 0 0;", 0);
        Check.stops(FOUR, "sit 0 0;say 1 0;", 1);
        Check.stops(FOUR, "sit 0 0;night;say 0 0;", 2);
        Check.stops("", "say 0 0;", 0);
    }

    /** "scrub: a sitting there now, fewer than two PASTS" */
    private static void scrubThatCannotBe() {
        Check.stops(FOUR, "scrub 0;", 0);
        Check.stops(FOUR, nights(0, 0) + "scrub 0;", 2);
        Check.stops(FOUR, nights(0, 0, 1) + "scrub 0;scrub 0;", 5);
        Check.stops(FOUR, nights(0, 0, 1, 2) + "scrub 0;scrub 0;scrub 0;", 8);
        Check.stops(FOUR, nights(0, 0, 1) + "sit 0 2;scrub 0;", 5);
        Check.stops(FOUR, nights(0, 0, 1) + "sit 1 2;scrub 0;", 6);
        Check.stops(FOUR, nights(3, 0, 1, 2) + "scrub 3;", 6);
    }

    /** "join, split: a sitting at one of both" */
    private static void joinThatCannotBe() {
        Check.stops(FOUR, "sit 0 0;join 0 1;", 1);
        Check.stops(FOUR, "sit 1 0;join 0 1;", 1);
        Check.stops(FOUR, "sit 2 0;join 0 1;join 1 0;", 3);
        Check.stops(FOUR, "sit 0 0;night;join 0 1;join 1 0;", 4);
    }

    /** "split: PASTS at the second one, fewer than two at the first" */
    private static void splitThatCannotBe() {
        Check.stops(FOUR, "split 0 1;", 0);
        Check.stops(FOUR, nights(0, 0) + "split 0 1;", 2);
        Check.stops(FOUR, nights(0, 0, 1) + "split 0 1;", 5);
        Check.stops(FOUR, nights(0, 0, 1) + nights(1, 2) + "split 0 1;", 6);
        Check.stops(FOUR, nights(0, 0, 1) + "sit 0 2;split 0 1;", 5);
        Check.stops(FOUR, nights(0, 0, 1) + "sit 1 2;split 0 1;", 5);
        Check.stops(FOUR, nights(0, 0, 1) + "sit 2 2;split 0 1;", 6);
        Check.stops(FOUR, nights(0, 0, 1, 2, 3) + "split 0 1;split 0 2;split 0 3;", 10);
    }

    /** "STOP: the first DEED that can't be": deeds behind it that could be do not count. */
    private static void stopAtTheFirst() {
        Check.stops(FOUR, "scrub 0;night;night;", 0);
        Check.stops(FOUR, "night;say 0 0;night;say 1 1;", 1);
        Check.stops(FOUR, "night;".repeat(39) + "scrub 0;", 39);
    }

    /** "else how many there are" */
    private static void stopBehindAll() {
        Check.stops(FOUR, "", 0);
        Check.stops("", "", 0);
        Check.stops(FOUR, "night;", 1);
        Check.stops(FOUR, "night;".repeat(40), 40);
        Check.stops(FOUR, "sit 0 0;night;".repeat(20), 40);
    }

    /** "A STATE is behind the first n DEEDS, n up to STOP" */
    private static void stateUpToStop() {
        GrainInn x = Check.with(FOUR, "night;night;night;say 0 0;night;night;");
        for (int n = -2; n < 8; n++) {
            states(x, n, 0, n >= 0 && n <= 3 ? n : -2);
        }
        GrainInn y = Check.with(FOUR, "night;".repeat(40));
        states(y, 40, 0, 40);
        states(y, 41, 0, -2);
        states(y, Integer.MAX_VALUE, 0, -2);
        states(y, Integer.MIN_VALUE, 0, -2);
    }

    private static void deedIs(GrainInn x, int k, int... want) {
        for (int what = -1; what < 4; what++) {
            Check.due("deed(" + k + ", " + what + ")", x.deed(0, k, what), what < 0 || what > 2 ? -2 : want[what]);
        }
    }

    /** "(of sit the TABLE, its guests as bits; NONE without)", the words in their order, told though they can't be. */
    private static void numbersOfDeeds() {
        GrainInn x = Check.with("", "sit 4 7 0 3;sit 0 0;say 7 0;say 0 9;night;scrub 0;scrub 4;join 0 4;join 4 0;split 0 1;"
            + "sit 4 0 1 2 3 4 5 6 7;");
        int[][] want = {{0, 4, 137}, {0, 0, 1}, {1, 7, 0}, {1, 0, 9}, {2, -1, -1}, {3, 0, -1}, {3, 4, -1}, {4, 0, 4}, {4, 4, 0},
            {5, 0, 1}, {0, 4, 255}};
        for (int k = 0; k < want.length; k++) {
            deedIs(x, k, want[k]);
        }
        deedIs(x, -1, 11, -2, -2);
        deedIs(x, 11, -2, -2, -2);
        deedIs(x, -2, -2, -2, -2);
        deedIs(x, Integer.MAX_VALUE, -2, -2, -2);
    }

    private static void factsOfAState() {
        GrainInn x = Check.with("table 1 1 1;".repeat(5) + "guests 8;", "sit 4 7;sit 0 0;night;night;sit 4 7;");
        int[] pasts = {1, 0, 0, 0, 1};
        int[] sitters = {0, 0, 0, 0, 128};
        for (int t = 0; t < 5; t++) {
            states(x, 5, 10 + t, pasts[t]);
            states(x, 5, 20 + t, 0);
            states(x, 5, 30 + t, sitters[t]);
        }
        states(x, 5, 0, 2);
        states(x, 5, 4, 128);
        Check.due("the last guest's table", x.guest(0, 0, 5, 7, 2), 4);
    }

    /** "NET: all that is owed to one less all he owes" */
    private static void netOfAll() {
        GrainInn x = Check.with("table 8 2 3;guests 8;", "sit 0 0 7;night;sit 0 1 7;night;sit 0 2;");
        guests(x, 3, 3, 3, -6, 0, 0, 0, 0, 0, 3);
        guests(x, 5, 3, 6, -6, -6, 0, 0, 0, 0, 6);
        GrainInn y = Check.with("table 8 2 9;guests 1;", nights(0, 0, 0, 0));
        guests(y, 6, 3, 0);
        guests(y, 6, 1, 9 + 18 + 18);
    }

    private static void chain(GrainInn x, int n, int guest, int length, int last) {
        Check.due("chain of " + guest + " at " + n, x.guest(0, 0, n, guest, 4), length);
        Check.due("last of " + guest + " at " + n, x.guest(0, 0, n, guest, 5), last);
    }

    /** "until one owes nobody": he alone, then, is in it; a price of 0 makes no debt. */
    private static void chainOfOne() {
        GrainInn x = Check.with("table 1 1 1;guests 8;", nights(0, 0, 1, 2, 3, 4, 5, 6, 7));
        chain(x, 0, 7, 1, 7);
        for (int g = 0; g < 8; g++) {
            chain(x, 16, g, g + 1, 0);
        }
        GrainInn y = Check.with("table 1 1 0;", nights(0, 0, 1));
        chain(y, 4, 1, 1, 1);
    }

    /** "to whom he owes most (of several the least)" */
    private static void chainToTheLeast() {
        GrainInn x = Check.with("table 3 1 2;table 1 1 3;guests 5;", "sit 0 1 2 3;night;sit 0 0;sit 1 3;night;sit 1 0;");
        chain(x, 5, 0, 2, 1);
        chain(x, 6, 0, 2, 3);
    }

    /** "or it is one who was there": each counts once. */
    private static void chainThatGoesRound() {
        GrainInn x = Check.with("table 1 1 1;guests 4;", nights(0, 0, 1, 2, 0) + "sit 0 3;");
        chain(x, 8, 0, 3, 1);
        chain(x, 8, 1, 3, 2);
        chain(x, 8, 2, 3, 0);
        chain(x, 9, 3, 4, 1);
        GrainInn y = Check.with("table 1 1 1;guests 8;", nights(0, 0, 1, 2, 3, 4, 5, 6, 7, 0));
        for (int g = 0; g < 8; g++) {
            chain(y, 18, g, 8, (g + 1) % 8);
        }
    }

    /** "2: the night, from 0 on": nights in which nobody sat count. */
    private static void nightsOfPasts() {
        GrainInn x = Check.with("table 1 6 0;table 1 6 0;", "sit 0 0;night;night;night;sit 0 0;night;sit 1 1;night;");
        Check.due("first night", x.past(0, 0, 8, 0, 0, 2), 0);
        Check.due("fourth night", x.past(0, 0, 8, 0, 1, 2), 3);
        Check.due("fifth night", x.past(0, 0, 8, 1, 0, 2), 4);
        GrainInn y = Check.with("table 1 1 0;", "night;".repeat(38) + "sit 0 0;night;");
        Check.due("last night", y.past(0, 0, 40, 0, 0, 2), 38);
    }
}
