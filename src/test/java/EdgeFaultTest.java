/** The faults of Terms 1 and promises 4, 5 and 28: each sentence that names an edge has a test of its own. */
final class EdgeFaultTest {
    private static final int[] MOST = {5, 40, 10, 7};
    private static final String[] LINE = {"table 1 1 0;", "night;", "hear 0 0;", "silence;"};
    private static final String[] BAD = {"table 1 9 0;", "scrub 9;", "hear 0 99;", "heard 9;"};

    public static void main(String[] args) {
        formGoesBeforeAllOthers();
        firstOfFormFaults();
        placeOfTheEnd();
        secondIsTheFirst();
        guestToldOfInTheSit();
        firstByPlace();
        oneMoreThanMayBe();
        whatIsNoFurtherTable();
        lineWithABadNumberTellsItAllTheSame();
        guestNotBelowGuests();
        guestFaultOfAnInnAlone();
        guestFaultGoesBehindTheOthers();
        furtherOne();
        inThePlaceOfOne();
        faultKeepsNothing();
        noneSuchReadsNoText();
        noSuchSort();
        tapeIsEmptyThen();
        faultOfTheLatestText();
        count();
        Check.finish();
    }

    /** "If there is none, the first by place": 2, 3 and 4 wait for a text without 1, wherever it is. */
    private static void formGoesBeforeAllOthers() {
        for (int sort = 0; sort < 4; sort++) {
            String bad = BAD[sort];
            Check.fault(bad, sort, 2, bad.length() - (sort == 0 ? 4 : sort == 2 ? 3 : 2));
            Check.fault(bad + "#", sort, 1, bad.length());
            Check.fault(bad + LINE[sort] + " 1", sort, 1, bad.length() + LINE[sort].length() + 1);
            String full = LINE[sort].repeat(MOST[sort] + 1);
            Check.fault(full + "#", sort, 1, full.length());
            Check.fault(full.substring(0, full.length() - 1), sort, 1, full.length() - 1);
        }
        Check.fault("love 0 7;", 0, 4, 9);
        Check.fault("love 0 7;x", 0, 1, 9);
    }

    /** "1 the first byte or token with which no text goes on" */
    private static void firstOfFormFaults() {
        Check.fault("night;#;#", 1, 1, 6);
        Check.fault("night;111;night 1;", 1, 1, 6);
        Check.fault("night 1;#", 1, 1, 6);
        Check.fault("night#;night", 1, 1, 5);
        Check.fault("say # 1;", 1, 1, 4);
        Check.fault("say ; 1;", 1, 1, 4);
        Check.fault("say say 1;", 1, 1, 4);
        Check.fault("table 1 # 0;", 0, 1, 8);
    }

    /** "with places (a token's first byte; the end's)" */
    private static void placeOfTheEnd() {
        Check.fault("night", 1, 1, 5);
        Check.fault("night ", 1, 1, 6);
        Check.fault("night;say\n\n", 1, 1, 11);
        Check.fault("  nights;", 1, 1, 2);
        Check.fault("say  99  1;", 1, 2, 5);
    }

    /** "of quarrel, love, join, split, apart, beside the second one, if it is the first" */
    private static void secondIsTheFirst() {
        String[] words = {"quarrel", "love", "join", "split", "apart", "beside"};
        for (int i = 0; i < words.length; i++) {
            int sort = i / 2;
            for (int number = 0; number < (sort == 1 ? 5 : 8); number++) {
                String line = words[i] + " " + number + " ";
                String rest = sort == 0 ? "guests 8;" : "";
                Check.fault(line + number + ";" + rest, sort, 2, line.length());
                Check.fault(line + "0" + number + ";" + rest, sort, 2, line.length());
                Check.fault(line + (number == 0 ? 1 : number - 1) + ";" + rest, sort, 0, -1);
            }
        }
        Check.fault("say 3 3;", 1, 0, -1);
        Check.fault("hear 3 3;shun 3 3;", 2, 0, -1);
        Check.fault("table 3 3 3;", 0, 0, -1);
        Check.fault("join 9 9;", 1, 2, 5);
    }

    /** "of sit a guest that was told of in it already" */
    private static void guestToldOfInTheSit() {
        for (int guest = 0; guest < 8; guest++) {
            Check.fault("sit 0 " + guest + " " + guest + ";", 1, 2, 8);
            Check.fault("sit 0 " + guest + " 0" + guest + ";", 1, 2, 8);
            int other = guest == 0 ? 1 : guest - 1;
            Check.fault("sit 0 " + guest + " " + other + " " + guest + ";", 1, 2, 10);
            Check.fault("sit 0 " + guest + " " + other + ";sit 0 " + guest + ";", 1, 0, -1);
        }
        Check.fault("sit 4 4;", 1, 0, -1);
        Check.fault("sit 0 1 2 3 4 5 6 7 0;", 1, 0, -1);
        Check.fault("sit 0 1 2 3 4 5 6 7 0 7;", 1, 2, 22);
    }

    /** "the first by place, of one place the least" */
    private static void firstByPlace() {
        Check.fault("scrub 5;scrub 5;", 1, 2, 6);
        Check.fault("say 8 10;", 1, 2, 4);
        Check.fault("say 0 10;say 8 0;", 1, 2, 6);
        Check.fault("sit 5 8 8;", 1, 2, 4);
        Check.fault("table 9 7 10;", 0, 2, 6);
        Check.fault("table 1 7 10;", 0, 2, 8);
        for (int sort = 0; sort < 4; sort++) {
            String full = LINE[sort].repeat(MOST[sort]);
            Check.fault(BAD[sort] + full, sort, 2, BAD[sort].length() - (sort == 0 ? 4 : sort == 2 ? 3 : 2));
            Check.fault(full + LINE[sort] + BAD[sort], sort, 3, full.length());
            Check.fault(full + LINE[sort] + LINE[sort], sort, 3, full.length());
        }
        Check.fault(LINE[0].repeat(5) + "guests 9;" + LINE[0], 0, 2, 67);
    }

    /** "3 a 6th TABLE, a 41st DEED, an 11th WISH, an 8th ROW, at its first token" */
    private static void oneMoreThanMayBe() {
        for (int sort = 0; sort < 4; sort++) {
            for (int many = MOST[sort] - 1; many <= MOST[sort] + 2; many++) {
                int place = LINE[sort].length() * MOST[sort];
                boolean fine = many <= MOST[sort];
                Check.fault(LINE[sort].repeat(many), sort, fine ? 0 : 3, fine ? -1 : place);
            }
            Check.fault(LINE[sort].repeat(MOST[sort]) + " \n" + LINE[sort], sort, 3, LINE[sort].length() * MOST[sort] + 2);
        }
        Check.fault("hear 0 0;shun 0 0;apart 0 1;beside 0 1;".repeat(2) + "hear 0 0;shun 0 0;apart 0 1;", 2, 3, 96);
        Check.fault("silence;heard 1;".repeat(3) + "heard 1;heard 1;", 3, 3, 56);
        Check.fault("sit 0 1;night;".repeat(20) + "scrub 0;", 1, 3, 280);
        for (String deed : new String[] {"sit 0 0;", "say 0 0;", "scrub 0;", "join 0 1;", "split 0 1;"}) {
            Check.fault(deed.repeat(40), 1, 0, -1);
            Check.fault(deed.repeat(41), 1, 3, 40 * deed.length());
        }
    }

    /** Lines of guests, quarrels, loves are no tables: there may be as many of them as the tape has. */
    private static void whatIsNoFurtherTable() {
        Check.fault(LINE[0].repeat(5) + "guests 5;".repeat(6) + "quarrel 0 1;".repeat(6) + "love 0 1;".repeat(6), 0, 0, -1);
        Check.fault("love 0 1;".repeat(40) + LINE[0].repeat(5), 0, 0, -1);
        Check.fault("guests 5;".repeat(6) + LINE[0].repeat(6), 0, 3, 114);
    }

    /** "a line with such a NUMBER tells its TABLE, DEED, WISH, ROW all the same": it is one too many, too. */
    private static void lineWithABadNumberTellsItAllTheSame() {
        for (int sort = 0; sort < 4; sort++) {
            String full = LINE[sort].repeat(MOST[sort]);
            Check.fault(full + BAD[sort], sort, 3, full.length());
        }
    }

    /** "4 of an INN a guest that was told of and is not below GUESTS", "at the end's place" */
    private static void guestNotBelowGuests() {
        for (String word : new String[] {"quarrel ", "love "}) {
            for (int guests = 1; guests <= 8; guests++) {
                for (int guest = 1; guest < 8; guest++) {
                    String text = word + guest + " 0;guests " + guests + ";";
                    Check.fault(text, 0, guest < guests ? 0 : 4, guest < guests ? -1 : text.length());
                    text = "guests " + guests + ";" + word + "0 " + guest + "; \n";
                    Check.fault(text, 0, guest < guests ? 0 : 4, guest < guests ? -1 : text.length());
                }
            }
        }
        Check.fault("love 0 3;", 0, 0, -1);
        Check.fault("love 0 4;", 0, 4, 9);
        Check.fault("love 0 7;guests 8;guests 7;", 0, 4, 27);
        Check.fault("love 0 4;quarrel 0 1;love 1 2;", 0, 4, 30);
        Check.fault("quarrel 4 0;love 0 1;", 0, 4, 21);
        Check.fault("guests 8;love 0 7;guests 7;guests 8;", 0, 0, -1);
    }

    private static void guestFaultOfAnInnAlone() {
        Check.fault("sit 0 7;say 7 0;", 1, 0, -1);
        Check.fault("hear 7 0;shun 7 0;apart 6 7;beside 7 6;", 2, 0, -1);
        Check.fault("heard 7;", 3, 0, -1);
    }

    /** "If there is none of these" */
    private static void guestFaultGoesBehindTheOthers() {
        Check.fault("love 0 7;table 0 1 1;", 0, 2, 15);
        Check.fault("table 1 1 0;".repeat(6) + "love 0 7;", 0, 3, 60);
        Check.fault("love 0 7;love 3 3;", 0, 2, 16);
        Check.fault("love 0 7;love", 0, 1, 13);
    }

    /** "a further one (at NONE)", "INNS, at most 2 .., from 0 on" */
    private static void furtherOne() {
        for (int sort = 0; sort < 4; sort++) {
            GrainInn x = new GrainInn();
            Check.due("first", Check.take(x, sort, ""), 0);
            Check.due("second", Check.take(x, sort, LINE[sort]), 1);
            Check.due("a third", Check.take(x, sort, LINE[sort]), -2);
            Check.due("two are left", x.count(sort), 2);
            for (int other = 0; other < 4; other++) {
                Check.due("of the other sorts", x.count(other), other == sort ? 2 : 0);
            }
        }
    }

    private static int lines(GrainInn x, int sort, int at) {
        return sort == 0 ? x.inn(at, 0) : sort == 1 ? x.deed(at, -1, 0) : sort == 2 ? x.wish(at, -1, 0) : x.heard(at, -1);
    }

    /** "or in the place of one: its number" */
    private static void inThePlaceOfOne() {
        for (int sort = 0; sort < 4; sort++) {
            GrainInn x = new GrainInn();
            Check.due("place 0 of none", Check.take(x, sort, 0, LINE[sort]), -2);
            Check.due("none came", x.count(sort), 0);
            Check.take(x, sort, LINE[sort]);
            Check.due("place 0 of one", Check.take(x, sort, 0, LINE[sort].repeat(3)), 0);
            Check.due("place 1 of one", Check.take(x, sort, 1, ""), -2);
            Check.take(x, sort, LINE[sort].repeat(4));
            Check.due("place 1 of two", Check.take(x, sort, 1, LINE[sort].repeat(2)), 1);
            Check.due("place 2 of two", Check.take(x, sort, 2, ""), -2);
            Check.due("place -2", Check.take(x, sort, -2, ""), -2);
            Check.due("the least place", Check.take(x, sort, Integer.MIN_VALUE, ""), -2);
            Check.due("the greatest place", Check.take(x, sort, Integer.MAX_VALUE, ""), -2);
            Check.due("lines of 0", lines(x, sort, 0), 3);
            Check.due("lines of 1", lines(x, sort, 1), 2);
            Check.due("place 0 of two", Check.take(x, sort, 0, ""), 0);
            Check.due("no lines of 0", lines(x, sort, 0), 0);
            Check.due("two are left", x.count(sort), 2);
        }
    }

    /** "NONE: a FAULT": nothing comes, nothing is struck. */
    private static void faultKeepsNothing() {
        for (int sort = 0; sort < 4; sort++) {
            GrainInn x = new GrainInn();
            Check.due("a fault", Check.take(x, sort, LINE[sort] + BAD[sort]), -1);
            Check.due("none came", x.count(sort), 0);
            Check.take(x, sort, LINE[sort].repeat(2));
            Check.due("a fault in its place", Check.take(x, sort, 0, BAD[sort]), -1);
            Check.due("a fault of form in its place", Check.take(x, sort, 0, "#"), -1);
            Check.due("too many in its place", Check.take(x, sort, 0, LINE[sort].repeat(MOST[sort] + 1)), -1);
            Check.due("it is as it was", lines(x, sort, 0), 2);
        }
        GrainInn x = new GrainInn();
        Check.take(x, 0, "table 3 4 5;guests 6;love 0 1;quarrel 2 3;");
        Check.due("a guest not below", Check.take(x, 0, 0, "guests 2;love 0 2;table 1 1 1;"), -1);
        int[] whats = {0, 1, 10, 20, 30, 42, 50};
        int[] want = {1, 6, 3, 4, 5, 8, 2};
        for (int i = 0; i < whats.length; i++) {
            Check.due("inn what " + whats[i], x.inn(0, whats[i]), want[i]);
        }
    }

    /** "-2: there is none such, there are as many as may be ..; no text is read, FAULT 0" */
    private static void noneSuchReadsNoText() {
        for (int sort = 0; sort < 4; sort++) {
            GrainInn x = new GrainInn();
            Check.due("a fault", Check.take(x, sort, "#"), -1);
            Check.due("none such", Check.take(x, sort, 0, "#"), -2);
            Check.due("fault 0", x.fault(0), 0);
            Check.due("no place", x.fault(1), -1);
            Check.take(x, sort, "");
            Check.take(x, sort, "");
            Check.due("a fault in a place", Check.take(x, sort, 1, "#"), -1);
            Check.due("fault 1", x.fault(0), 1);
            Check.due("as many as may be", Check.take(x, sort, "#"), -2);
            Check.due("fault 0 again", x.fault(0), 0);
            Check.due("no place again", x.fault(1), -1);
        }
    }

    /** "or no such sort" */
    private static void noSuchSort() {
        for (int sort : new int[] {-1, -2, 4, 5, Integer.MIN_VALUE, Integer.MAX_VALUE}) {
            GrainInn x = new GrainInn();
            for (int i = 0; i < 4; i++) {
                Check.take(x, i, "");
            }
            for (int at = -2; at < 3; at++) {
                Check.take(x, 1, 0, "#");
                Check.due("sort " + sort + " at " + at, Check.take(x, sort, at, "#"), -2);
                Check.due("fault 0", x.fault(0), 0);
                Check.due("no place", x.fault(1), -1);
            }
            for (int i = 0; i < 4; i++) {
                Check.due("one of sort " + i, x.count(i), 1);
            }
        }
    }

    private static void takenEmpty(GrainInn x, String call, int got, int want) {
        Check.due(call, got, want);
        Check.due("the tape is empty behind " + call, x.end(1), -1);
        Check.due("nothing is left on it behind " + call, x.end(0), 0);
    }

    /** "(and is empty then)", "(the tape is empty then, too ..)" */
    private static void tapeIsEmptyThen() {
        GrainInn x = new GrainInn();
        takenEmpty(x, "a text", Check.take(x, 0, "guests 3;"), 0);
        takenEmpty(x, "a text in a place", Check.take(x, 0, 0, "guests 3;"), 0);
        takenEmpty(x, "a fault", Check.take(x, 0, "guests 9;"), -1);
        takenEmpty(x, "a fault of form", Check.take(x, 0, "guests #;"), -1);
        takenEmpty(x, "none such", Check.take(x, 0, 1, "guests 3;"), -2);
        takenEmpty(x, "no such sort", Check.take(x, 4, "guests 3;"), -2);
        takenEmpty(x, "a second text", Check.take(x, 0, "guests 3;"), 1);
        takenEmpty(x, "a third text", Check.take(x, 0, "guests 3;"), -2);
        takenEmpty(x, "an empty tape", x.text(1, -1), 0);
    }

    /** "Of the latest text(), what 0: the FAULT, 0 without, 1: its place, NONE without. NONE for another what." */
    private static void faultOfTheLatestText() {
        String[] texts = {"#", "scrub 5;", "night;".repeat(41), "night;"};
        int[] faults = {1, 2, 3, 0};
        int[] places = {0, 6, 240, -1};
        GrainInn x = new GrainInn();
        for (int i = 0; i < texts.length; i++) {
            Check.take(x, 1, texts[i]);
            Check.due("fault", x.fault(0), faults[i]);
            Check.due("place", x.fault(1), places[i]);
            for (int what : new int[] {-1, 2, 3, Integer.MIN_VALUE, Integer.MAX_VALUE}) {
                Check.due("fault(" + what + ")", x.fault(what), -1);
            }
        }
        Check.take(x, 1, "night");
        x.feed(0, 0, 0, 0, 0);
        x.end(3);
        x.stop(0, 0);
        x.inn(5, 5);
        Check.due("other calls are no texts", x.fault(0), 1);
        Check.due("its place stays", x.fault(1), 5);
    }

    /** "How many there are of a sort. -2 for another one." */
    private static void count() {
        GrainInn x = new GrainInn();
        for (int sort = 0; sort < 4; sort++) {
            for (int many = 0; many < 3; many++) {
                Check.due("count(" + sort + ")", x.count(sort), many);
                Check.take(x, sort, "");
            }
        }
        for (int sort : new int[] {-1, -2, 4, 5, Integer.MIN_VALUE, Integer.MAX_VALUE}) {
            Check.due("count(" + sort + ")", x.count(sort), -2);
        }
    }
}
