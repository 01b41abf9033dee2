/** Terms 5 and 6 and promises 20 to 27: each sentence that names an edge has a test of its own, in their order. */
final class EdgeYearTest {
    private static final int[] SEEDS = {0, 1, -1, 7, 12345, 65536, Integer.MAX_VALUE, Integer.MIN_VALUE, -1103515245};

    public static void main(String[] args) {
        whisperInTheFewestSittings();
        whisperOfSeveralTheLeast();
        whisperByNone();
        greatestCouncil();
        councilOfSeveralTheLeast();
        fewestTablesOfASplit();
        drawnByASeed();
        drawnNights();
        drawnAsLongAsThereAreSeats();
        drawnWordsOfTheirOwnNumbers();
        drawnFactsOfTables();
        metOnANight();
        metOfAPast();
        metIsNotHimself();
        gossipSteps();
        gossipNever();
        ghostOfSeveralTheLeast();
        ghostWithoutPasts();
        crowdOfSeveralTheLeast();
        crowdWithoutPastsOrTables();
        forgetsAsLongAsItKeeps();
        forgetsNow();
        spyOfNoWords();
        spyInFourNights();
        spyFirstRow();
        spyNotInFour();
        weddingsOfTwoSeats();
        weddingsOfThoseWhoLove();
        noGuestAtTwoTables();
        nobodyWhoQuarrelsOfItsPasts();
        weddingsByNumbers();
        Check.finish();
    }

    private static String said(int table, int guest, int word) {
        return "sit " + table + " " + guest + ";say " + guest + " " + word + ";night;";
    }

    private static void whisper(GrainInn x, int n, int word, int sittings, int table) {
        Check.due("whisper(" + n + ", " + word + ", false)", x.whisper(0, 0, n, word, false), sittings);
        Check.due("whisper(" + n + ", " + word + ", true)", x.whisper(0, 0, n, word, true), table);
    }

    /** "of all TABLES that at which it COMES for the first time in the fewest sittings" */
    private static void whisperInTheFewestSittings() {
        GrainInn x = Check.with("table 1 6 0;table 1 6 0;table 1 6 0;guests 1;",
            said(0, 0, 0) + said(0, 0, 1) + said(0, 0, 2) + said(0, 0, 3) + said(2, 0, 3) + said(1, 0, 2));
        whisper(x, 18, 0, -1, -1);
        whisper(x, 18, 1, -1, -1);
        whisper(x, 18, 2, 1, 0);
        whisper(x, 18, 3, 1, 2);
        whisper(x, 12, 3, 2, 0);
    }

    /** "of several the least" */
    private static void whisperOfSeveralTheLeast() {
        GrainInn x = Check.with("table 1 1 0;".repeat(5) + "guests 4;",
            "sit 4 0;say 0 9;sit 3 1;say 1 9;sit 1 2;say 2 0;sit 2 3;say 3 0;night;");
        whisper(x, 9, 9, 1, 3);
        whisper(x, 9, 0, 1, 1);
        whisper(x, 2, 9, 1, 4);
    }

    /** "NONE: by none": no past has it, there are no tables. */
    private static void whisperByNone() {
        GrainInn x = Check.with("table 1 1 0;guests 1;", said(0, 0, 0) + said(0, 0, 1));
        whisper(x, 0, 0, -1, -1);
        whisper(x, 3, 0, 1, 0);
        whisper(x, 3, 1, -1, -1);
        whisper(x, 6, 0, -1, -1);
        whisper(x, 6, 1, 1, 0);
        GrainInn y = Check.with("guests 1;", "");
        whisper(y, 0, 0, -1, -1);
    }

    private static void council(String inn, int who, int tables) {
        GrainInn x = Check.with(inn, "");
        Check.due("council of " + inn, x.council(0, false), who);
        Check.due("split of " + inn, x.council(0, true), tables);
    }

    /** "the greatest set of GUESTS .. of whom no couple QUARRELS": all, one of all who quarrel; loves and tables are nothing to it. */
    private static void greatestCouncil() {
        for (int guests = 1; guests <= 8; guests++) {
            council("guests " + guests + ";", (1 << guests) - 1, 1);
            StringBuilder all = new StringBuilder("guests " + guests + ";");
            for (int g = 1; g < guests; g++) {
                for (int h = 0; h < g; h++) {
                    all.append("quarrel ").append(h).append(' ').append(g).append(';');
                }
            }
            council(all.toString(), 1, guests);
        }
        council("table 1 1 1;love 0 1;love 2 3;", 15, 1);
        council("guests 8;quarrel 0 7;quarrel 0 1;", 254, 2);
    }

    /** "(bits; of several the least)" */
    private static void councilOfSeveralTheLeast() {
        council("guests 2;quarrel 0 1;", 1, 2);
        council("guests 4;quarrel 0 1;quarrel 2 3;", 5, 2);
        council("guests 4;quarrel 0 1;quarrel 1 2;quarrel 2 3;", 5, 2);
        council("guests 4;quarrel 0 1;quarrel 0 2;quarrel 1 2;", 9, 3);
    }

    /** "the fewest TABLES, each as large as one likes, at which all sit": more than the inn has, too. */
    private static void fewestTablesOfASplit() {
        council("guests 3;quarrel 0 1;quarrel 1 2;quarrel 0 2;", 1, 3);
        council("guests 7;quarrel 0 1;quarrel 1 2;quarrel 2 3;quarrel 3 4;quarrel 4 5;quarrel 5 6;quarrel 6 0;", 21, 3);
        council("guests 8;quarrel 0 1;quarrel 0 2;quarrel 0 3;quarrel 0 4;quarrel 0 5;quarrel 0 6;quarrel 0 7;", 254, 2);
        council("guests 8;quarrel 0 1;quarrel 1 2;quarrel 2 3;quarrel 3 4;quarrel 4 5;quarrel 5 6;quarrel 6 7;quarrel 7 0;", 85, 2);
    }

    /** Who drew which table each night, told in numbers of 64 bits cut to 32: tables by nights and guests. */
    private static int[][] draws(int seed, int tables, int guests, int nights) {
        int[][] drew = new int[nights][guests];
        long x = seed & 0xffffffffL;
        for (int night = 0; night < nights; night++) {
            for (int g = 0; g < guests; g++) {
                x = x * 1103515245L + 12345L & 0xffffffffL;
                drew[night][g] = (int) ((x >> 16) % tables);
            }
        }
        return drew;
    }

    /** "(of 32 bits) .. shifted right by 16 without sign, remainder by n": seeds whose numbers go round and are below 0. */
    private static void drawnByASeed() {
        for (int seed : SEEDS) {
            for (int tables = 1; tables <= 5; tables++) {
                GrainInn x = Check.with("table 8 6 0;".repeat(tables) + "guests 8;", "");
                int[] last = new int[tables];
                int[][] drew = draws(seed, tables, 8, 6);
                for (int night = 0; night < 6; night++) {
                    int[] who = new int[tables];
                    for (int g = 0; g < 8; g++) {
                        who[drew[night][g]] |= 1 << g;
                    }
                    for (int t = 0; t < tables; t++) {
                        last[t] = who[t] != 0 ? who[t] : last[t];
                        Check.due("drawn(" + seed + ", " + night + ", " + t, x.drawn(0, seed, night + 1, 20 + t), last[t]);
                    }
                    Check.due("all sit", x.drawn(0, seed, night + 1, 3), 0);
                }
            }
        }
    }

    /** "nights 1 .. 40" */
    private static void drawnNights() {
        GrainInn x = Check.with("table 1 1 1;guests 1;", "");
        for (int nights = -1; nights <= 42; nights++) {
            boolean can = nights >= 1 && nights <= 40;
            Check.due("paid in " + nights + " nights", x.drawn(0, 5, nights, 2), can ? 2 * nights - 1 : -2);
        }
        Check.due("the least number of nights", x.drawn(0, 5, Integer.MIN_VALUE, 2), -2);
        Check.due("the greatest number of nights", x.drawn(0, 5, Integer.MAX_VALUE, 2), -2);
    }

    /** "(by numbers, as long as there are SEATS; others do not sit)", "how often one who drew a TABLE did not sit" */
    private static void drawnAsLongAsThereAreSeats() {
        for (int seats = 1; seats <= 8; seats++) {
            GrainInn one = Check.with("table " + seats + " 1 1;guests 8;", "");
            Check.due("who sits", one.drawn(0, 3, 1, 20), (1 << seats) - 1);
            Check.due("who does not", one.drawn(0, 3, 1, 3), 8 - seats);
            Check.due("in 40 nights", one.drawn(0, 3, 40, 3), 40 * (8 - seats));
            Check.due("they pay nothing", one.drawn(0, 3, 1, 2), seats);
            Check.due("and hear nothing", one.drawn(0, 3, 40, 17), seats == 8 ? 255 : 0);
        }
        for (int seed : SEEDS) {
            GrainInn x = Check.with("table 2 6 0;table 1 6 0;table 3 6 0;guests 8;", "");
            int[] seats = {2, 1, 3};
            int[] last = new int[3];
            int unseated = 0;
            for (int[] drew : draws(seed, 3, 8, 10)) {
                int[] who = new int[3];
                for (int g = 0; g < 8; g++) {
                    if (Integer.bitCount(who[drew[g]]) < seats[drew[g]]) {
                        who[drew[g]] |= 1 << g;
                    } else {
                        unseated++;
                    }
                }
                for (int t = 0; t < 3; t++) {
                    last[t] = who[t] != 0 ? who[t] : last[t];
                }
            }
            Check.due("unseated by " + seed, x.drawn(0, seed, 10, 3), unseated);
            for (int t = 0; t < 3; t++) {
                Check.due("last at " + t + " by " + seed, x.drawn(0, seed, 10, 20 + t), last[t]);
            }
        }
    }

    /** "each who sits says the WORD of his own number": all at his table hear it, and who comes later. */
    private static void drawnWordsOfTheirOwnNumbers() {
        GrainInn one = Check.with("table 8 1 0;guests 8;quarrel 0 1;love 2 3;love 2 4;", "");
        for (int g = 0; g < 8; g++) {
            Check.due("all hear all", one.drawn(0, 9, 1, 10 + g), 255);
        }
        Check.due("no strife on the first night", one.drawn(0, 9, 1, 0), 0);
        Check.due("strife, each way, on the second", one.drawn(0, 9, 2, 0), 2);
        Check.due("joy, each way, on the second", one.drawn(0, 9, 2, 1), 4);
        int[] drew = draws(11, 5, 8, 1)[0];
        GrainInn x = Check.with("table 8 1 0;".repeat(5) + "guests 8;", "");
        for (int g = 0; g < 8; g++) {
            int words = 0;
            for (int h = 0; h < 8; h++) {
                words |= drew[h] == drew[g] ? 1 << h : 0;
            }
            Check.due("heard by " + g + " at his table", x.drawn(0, 11, 1, 10 + g), words);
        }
    }

    /** "20 + t: the guests of the last PAST of a TABLE (bits; 0 without), 30 + t: its TURN" */
    private static void drawnFactsOfTables() {
        for (int keeps = 1; keeps <= 6; keeps++) {
            GrainInn x = Check.with("table 1 " + keeps + " 0;guests 1;", "");
            for (int nights = 1; nights <= 9; nights++) {
                Check.due("turn", x.drawn(0, 1, nights, 30), Math.max(0, Math.min(nights, keeps) - 2));
                Check.due("last past", x.drawn(0, 1, nights, 20), 1);
            }
        }
        GrainInn y = Check.with("table 1 1 0;".repeat(5) + "guests 1;", "");
        int at = draws(1, 5, 1, 1)[0][0];
        for (int t = 0; t < 5; t++) {
            Check.due("last past of " + t, y.drawn(0, 1, 1, 20 + t), t == at ? 1 : 0);
            Check.due("turn of " + t, y.drawn(0, 1, 1, 30 + t), 0);
        }
    }

    private static void met(GrainInn x, int n, int... want) {
        for (int g = 0; g < want.length; g++) {
            Check.due("met(" + n + ", " + g + ", -1)", x.met(0, 0, n, g, -1), want[g]);
        }
    }

    /** "with whom one has sat at a TABLE on a night": at one table, not at another one. */
    private static void metOnANight() {
        GrainInn x = Check.with("table 8 1 0;table 8 1 0;guests 8;", "sit 0 0 7 3;sit 1 1 2;night;sit 1 4;night;");
        met(x, 0, 0, 0, 0, 0, 0, 0, 0, 0);
        met(x, 3, 136, 4, 2, 129, 0, 0, 0, 9);
        met(x, 5, 136, 20, 18, 129, 6, 0, 0, 9);
    }

    /** "or who were of a PAST that was REPEATED where he sat", "each is so of the other, too" */
    private static void metOfAPast() {
        GrainInn x = Check.with("table 4 6 0;guests 6;", "sit 0 0;night;sit 0 1;night;sit 0 2;night;sit 0 3 4;night;");
        met(x, 2, 0, 0, 0, 0, 0, 0);
        met(x, 4, 2, 1, 0, 0, 0, 0);
        met(x, 6, 6, 1, 1, 0, 0, 0);
        met(x, 8, 6, 25, 1, 18, 10, 0);
    }

    /** "(he himself is none)": his own past comes round. */
    private static void metIsNotHimself() {
        GrainInn x = Check.with("table 4 1 0;guests 8;", "sit 0 7;night;sit 0 7;night;sit 0 7 0;night;sit 0 0 7;night;");
        met(x, 4, 0, 0, 0, 0, 0, 0, 0, 0);
        met(x, 8, 128, 0, 0, 0, 0, 0, 0, 1);
    }

    /** "the fewest steps, each from one to one whom he MET", "(0: to himself ..)": up to seven of them. */
    private static void gossipSteps() {
        StringBuilder row = new StringBuilder();
        for (int g = 0; g < 8; g++) {
            row.append("sit 0 ").append(g).append(";night;");
        }
        GrainInn x = Check.with("table 4 1 0;guests 8;", row + "sit 0 0;night;");
        for (int g = 0; g < 8; g++) {
            for (int h = 0; h < 8; h++) {
                int far = Math.abs(g - h);
                Check.due("gossip of " + g + " to " + h, x.met(0, 0, 16, g, h), far);
                Check.due("gossip in the ring of " + g + " to " + h, x.met(0, 0, 18, g, h), Math.min(far, 8 - far));
            }
        }
    }

    /** "NONE: never" */
    private static void gossipNever() {
        GrainInn x = Check.with("table 4 1 0;table 4 1 0;guests 5;", "sit 0 0 1;sit 1 2 3;night;");
        for (int g = 0; g < 5; g++) {
            for (int h = 0; h < 5; h++) {
                Check.due("gossip of " + g + " to " + h + " at first", x.met(0, 0, 0, g, h), g == h ? 0 : -1);
                int want = g == h ? 0 : g / 2 == h / 2 ? 1 : -1;
                Check.due("gossip of " + g + " to " + h, x.met(0, 0, 3, g, h), want);
            }
        }
    }

    private static void ghosts(GrainInn x, int n, int... want) {
        for (int what = 0; what < 4; what++) {
            Check.due("ghosts(" + n + ", " + what + ")", x.ghosts(0, 0, n, what), want[what]);
        }
    }

    /** "the guest who is of the most PASTS of all TABLES, of several the least; of how many" */
    private static void ghostOfSeveralTheLeast() {
        GrainInn x = Check.with("table 8 6 0;table 8 6 0;guests 8;",
            "sit 0 7 6;sit 1 5;night;sit 1 5;sit 0 0;night;sit 1 6;night;sit 0 7;sit 1 5;night;");
        ghosts(x, 3, 5, 1, 0, 2);
        ghosts(x, 6, 5, 2, 0, 3);
        ghosts(x, 8, 5, 2, 0, 3);
        ghosts(x, 11, 5, 3, 0, 3);
        GrainInn y = Check.with("table 8 1 0;guests 8;", "sit 0 7;night;sit 0 7 6 1;night;sit 0 7;night;");
        ghosts(y, 2, 7, 1, 0, 1);
        ghosts(y, 4, 1, 1, 0, 3);
        ghosts(y, 6, 7, 1, 0, 1);
    }

    /** "(0, 1: NONE: no PASTS)": who sits now is of none. */
    private static void ghostWithoutPasts() {
        GrainInn x = Check.with("table 8 1 0;", "sit 0 0 1;night;");
        ghosts(x, 0, -1, -1, 0, 0);
        ghosts(x, 1, -1, -1, 0, 0);
        ghosts(x, 2, 0, 1, 0, 2);
    }

    /** "the TABLE of whose PASTS the most unlike guests are, of several the least; how many" */
    private static void crowdOfSeveralTheLeast() {
        GrainInn x = Check.with("table 8 6 0;".repeat(5) + "guests 8;",
            "sit 4 0 1;sit 2 2 3;night;sit 4 1;night;sit 4 0 1 5;night;sit 0 0 1 2 3 4 5 6 7;night;");
        ghosts(x, 3, 0, 1, 2, 2);
        ghosts(x, 5, 1, 2, 2, 2);
        ghosts(x, 7, 1, 3, 4, 3);
        ghosts(x, 9, 1, 4, 0, 8);
    }

    /** "(NONE: no TABLES)": of tables without pasts the first one has none. */
    private static void crowdWithoutPastsOrTables() {
        ghosts(Check.with("", "night;"), 1, -1, -1, -1, -1);
        ghosts(Check.with("table 1 1 1;", "night;"), 1, -1, -1, 0, 0);
        ghosts(Check.with("table 1 1 1;".repeat(5), "night;"), 1, -1, -1, 0, 0);
    }

    private static void forgets(GrainInn x, int n, int table, int guest, int want) {
        Check.due("forgets(" + n + ", " + table + ", " + guest + ")", x.forgets(0, 0, n, table, guest), want);
    }

    /** "behind how many sittings (and their nights) no PAST of it has him", for every number of sittings kept. */
    private static void forgetsAsLongAsItKeeps() {
        for (int keeps = 1; keeps <= 6; keeps++) {
            GrainInn x = Check.with("table 1 " + keeps + " 0;guests 8;",
                "sit 0 7;night;sit 0 6;night;sit 0 5;night;sit 0 4;night;sit 0 3;night;sit 0 2;night;");
            for (int many = 1; many <= 6; many++) {
                for (int k = 0; k < many; k++) {
                    int place = k - Math.max(0, many - keeps);
                    int want = place < 0 ? 0 : keeps - Math.min(many, keeps) + place + 1;
                    forgets(x, 2 * many, 0, 7 - k, want);
                }
                forgets(x, 2 * many, 0, 0, 0);
            }
        }
    }

    /** "(0: none has him now, be it behind a night)" */
    private static void forgetsNow() {
        GrainInn x = Check.with("table 2 1 0;table 2 2 0;guests 3;", "sit 0 0;sit 1 0;night;");
        Check.due("stop", x.stop(0, 0), 1);
        GrainInn y = Check.with("table 2 1 0;table 2 2 0;guests 4;", "sit 0 0;sit 1 2;night;sit 0 1;sit 1 3;night;");
        forgets(y, 0, 0, 0, 0);
        forgets(y, 1, 0, 0, 1);
        forgets(y, 1, 0, 1, 0);
        forgets(y, 3, 0, 0, 1);
        forgets(y, 4, 0, 0, 0);
        forgets(y, 4, 0, 1, 1);
        forgets(y, 4, 1, 2, 2);
        forgets(y, 5, 1, 2, 1);
        forgets(y, 5, 1, 3, 2);
        forgets(y, 5, 1, 1, 0);
    }

    private static void spy(GrainInn x, int n, int words, int... row) {
        Check.due("spy(" + n + ", " + words + ", 0)", x.spy(0, 0, n, words, 0), row.length);
        for (int i = -1; i < 6; i++) {
            int want = i >= 0 && i < row.length ? row[i] : -1;
            Check.due("spy(" + n + ", " + words + ", " + (10 + i) + ")", x.spy(0, 0, n, words, 10 + i), want);
        }
    }

    private static void spyInVain(GrainInn x, int n, int words) {
        for (int what : new int[] {0, 10, 11, 12, 13, 14}) {
            Check.due("spy(" + n + ", " + words + ", " + what + ")", x.spy(0, 0, n, words, what), -1);
        }
    }

    /** "the fewest nights, 0 to 4": no words need no night, without tables, too. */
    private static void spyOfNoWords() {
        spy(Check.with("table 1 1 0;", ""), 0, 0);
        spy(Check.with("", ""), 0, 0);
        spyInVain(Check.with("", ""), 0, 1);
        spyInVain(Check.with("table 1 1 0;", ""), 0, 1);
        spyInVain(Check.with("table 1 1 0;", ""), 0, 1023);
    }

    /** Six words at table 0, one a past: the fourth comes in the fourth night, the fifth is too late. */
    private static void spyInFourNights() {
        String row = said(1, 0, 0) + said(1, 0, 1) + said(1, 0, 2) + said(1, 0, 9) + said(1, 0, 4);
        GrainInn x = Check.with("table 1 6 0;table 1 6 0;guests 1;", row + "join 0 1;");
        spy(x, 16, 1, 0);
        spy(x, 16, 2, 0, 0);
        spy(x, 16, 4, 0, 0, 0);
        spy(x, 16, 512, 0, 0, 0, 0);
        spy(x, 16, 512 + 7, 0, 0, 0, 0);
        spyInVain(x, 16, 16);
        spyInVain(x, 16, 17);
        GrainInn y = Check.with("table 1 1 0;".repeat(5) + "guests 5;",
            "sit 0 0;say 0 0;sit 1 1;say 1 1;sit 2 2;say 2 2;sit 3 3;say 3 3;sit 4 4;say 4 4;night;");
        spy(y, 11, 30, 1, 2, 3, 4);
        spyInVain(y, 11, 31);
        Check.due("each night at a table forgets its past", y.spy(0, 0, 11, 16, 10), 4);
    }

    /** "the first row of TABLES of that many" */
    private static void spyFirstRow() {
        GrainInn x = Check.with("table 1 2 0;table 1 2 0;table 1 2 0;guests 3;",
            "sit 0 0;say 0 1;sit 1 1;say 1 2;sit 2 2;say 2 1;say 2 2;night;sit 2 2;say 2 3;night;");
        spy(x, 8, 2, 0);
        spy(x, 8, 4, 1);
        spy(x, 8, 6, 2);
        spy(x, 11, 8, 2, 2);
        spy(x, 11, 10, 2, 2);
        spy(x, 11, 6, 2);
        GrainInn y = Check.with("table 1 2 0;table 1 2 0;guests 2;", "sit 0 0;say 0 1;sit 1 1;say 1 2;night;");
        spy(y, 5, 6, 0, 1);
    }

    /** "NONE: not in 4 ..": words nobody said, too. */
    private static void spyNotInFour() {
        GrainInn x = Check.with("table 1 6 0;guests 1;", said(0, 0, 0));
        for (int word = 1; word < 10; word++) {
            spyInVain(x, 3, 1 << word);
            spyInVain(x, 3, 1 | 1 << word);
        }
        spy(x, 3, 1, 0);
        spyInVain(x, 1, 0);
    }

    private static void weddings(GrainInn x, int n, int most, int... couples) {
        Check.due("weddings(" + n + ", 0)", x.weddings(0, 0, n, 0), most);
        for (int t = 0; t < couples.length; t++) {
            Check.due("weddings(" + n + ", " + (10 + t) + ")", x.weddings(0, 0, n, 10 + t), couples[t]);
        }
        Check.due("no such table", x.weddings(0, 0, n, 10 + couples.length), -2);
    }

    /** "each TABLE of 2 SEATS or more may have one couple" */
    private static void weddingsOfTwoSeats() {
        for (int seats = 1; seats <= 8; seats++) {
            int most = seats < 2 ? 0 : 1;
            weddings(Check.with("table " + seats + " 1 0;love 0 1;love 2 3;", ""), 0, most, seats < 2 ? -1 : 1);
        }
        weddings(Check.with("table 1 1 0;table 2 1 0;love 0 1;", ""), 0, 1, -1, 1);
        weddings(Check.with("love 0 1;", ""), 0, 0);
    }

    /** "that LOVES": a couple that quarrels with each other besides may, too. */
    private static void weddingsOfThoseWhoLove() {
        weddings(Check.with("table 2 1 0;", ""), 0, 0, -1);
        weddings(Check.with("table 2 1 0;quarrel 0 1;", ""), 0, 0, -1);
        weddings(Check.with("table 2 1 0;quarrel 0 1;love 1 0;", ""), 0, 1, 1);
        weddings(Check.with("table 2 1 0;guests 8;love 7 6;", ""), 0, 1, 55);
    }

    private static void noGuestAtTwoTables() {
        weddings(Check.with("table 2 1 0;table 2 1 0;love 0 1;", ""), 0, 1, 1, -1);
        weddings(Check.with("table 2 1 0;table 2 1 0;love 0 1;love 1 2;love 0 2;", ""), 0, 1, 1, -1);
        weddings(Check.with("table 2 1 0;table 2 1 0;love 0 1;love 1 2;love 2 3;", ""), 0, 2, 1, 19);
        weddings(Check.with("table 2 1 0;table 2 1 0;love 0 1;love 0 2;love 1 3;", ""), 0, 2, 2, 11);
        weddings(Check.with("table 2 1 0;".repeat(5) + "guests 8;love 0 1;love 2 3;love 4 5;love 6 7;", ""), 0, 4, 1, 19, 37, 55, -1);
    }

    /** "nobody being of its PASTS who QUARRELS with either of them": any past, either one; who sits now is of none. */
    private static void nobodyWhoQuarrelsOfItsPasts() {
        String inn = "table 2 6 0;table 2 6 0;love 0 1;quarrel 0 2;quarrel 1 3;";
        GrainInn x = Check.with(inn, "sit 0 2;night;sit 0 0;night;sit 1 3;night;scrub 0;");
        weddings(x, 0, 1, 1, -1);
        weddings(x, 1, 1, 1, -1);
        weddings(x, 2, 1, -1, 1);
        weddings(x, 4, 1, -1, 1);
        weddings(x, 5, 1, -1, 1);
        weddings(x, 6, 0, -1, -1);
        weddings(x, 7, 1, 1, -1);
        GrainInn y = Check.with("table 2 6 0;love 0 1;quarrel 0 1;", "sit 0 1;night;");
        weddings(y, 0, 1, 1);
        weddings(y, 2, 0, -1);
    }

    /** "by rows of TABLES, couples (8 times the lesser guest, and the other one) by numbers, no couple behind all couples" */
    private static void weddingsByNumbers() {
        weddings(Check.with("table 2 1 0;guests 8;love 7 1;love 2 1;love 3 0;", ""), 0, 1, 3);
        weddings(Check.with("table 2 1 0;table 2 1 0;guests 4;love 2 3;love 0 1;", ""), 0, 2, 1, 19);
        weddings(Check.with("table 2 1 0;table 2 1 0;guests 6;love 5 4;", ""), 0, 1, 37, -1);
        GrainInn x = Check.with("table 2 6 0;table 2 6 0;guests 8;love 0 7;love 6 7;love 6 5;quarrel 0 1;quarrel 5 2;",
            "sit 1 1;night;sit 1 2;night;");
        weddings(x, 2, 2, 7, 46);
        weddings(x, 4, 1, 7, -1);
    }
}
