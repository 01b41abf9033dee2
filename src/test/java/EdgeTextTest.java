/** Terms 1 and promises 1 to 8, 12, 16, 28: each sentence that names an edge has a test of its own, in their order. */
final class EdgeTextTest {
    private static final int BLANKS = 0x20202020;
    private static final String[][] WORDS = {
        {"table", "guests", "quarrel", "love"}, {"sit", "say", "night", "scrub", "join", "split"},
        {"hear", "shun", "apart", "beside"}, {"heard", "silence"}};
    private static final String[][] NUMBERS = {
        {" 1 1 0", " 5", " 0 1", " 0 1"}, {" 0 1", " 0 1", "", " 0", " 0 1", " 0 1"},
        {" 0 1", " 0 1", " 0 1", " 0 1"}, {" 0", ""}};
    private static final int[] MOST = {5, 40, 10, 7};
    private static final String[] LINE = {"table 1 1 0;", "night;", "hear 0 0;", "silence;"};

    public static void main(String[] args) {
        noneIsMinusOne();
        newObjectHasNothing();
        feedPutsTwentyBytesBehind();
        feedTakesEachNumberTheHighestByteFirst();
        feedTakesNothingBeyond600();
        endHasNotSoManyOrIsBelow0();
        tapeOf600IsReadWhole();
        emptyTextsAreTexts();
        seatsKeepsAndPrice();
        guests();
        guestsAreFourAtFirst();
        couplesAreEachTheOthers();
        guestsOfCouples();
        numbersOfDeeds();
        numbersOfWishesAndRows();
        blanksAre10And32Alone();
        lettersAreAToZ();
        digitsAre0To9();
        numbersHaveOneOrTwoDigits();
        tokensGoAsLongAsTheyGo();
        eachLineHasItsNumbers();
        wordsOfAnotherSort();
        laterGuestsStrike();
        othersAreFurtherOnes();
        Check.finish();
    }

    private static void noneIsMinusOne() {
        Check.due("NONE", GrainInn.NONE, -1);
    }

    /** "No INNS, EVENINGS, WISHES, HEARINGS; no images." */
    private static void newObjectHasNothing() {
        GrainInn x = new GrainInn();
        for (int sort = 0; sort < 4; sort++) {
            Check.due("count(" + sort + ") of a new one", x.count(sort), 0);
        }
        Check.due("inn 0", x.inn(0, 0), -1);
        Check.due("evenings 0", x.deed(0, -1, 0), -2);
        Check.due("wishes 0", x.wish(0, -1, 0), -2);
        Check.due("hearing 0", x.heard(0, -1), -2);
        for (int k = 0; k < 3; k++) {
            Check.due("again(" + k + ") of a new one", x.again(k), false);
        }
        Check.due("the tape is empty", x.end(1), -1);
        Check.due("fault 0 before any text", x.fault(0), 0);
        Check.due("its place", x.fault(1), -1);
    }

    /** "twenty bytes come behind it": behind what stands there, cut or not. */
    private static void feedPutsTwentyBytesBehind() {
        GrainInn x = new GrainInn();
        Check.due("first feed", x.feed(0x67756573, 0x74732035, 0x3b202020, BLANKS, BLANKS), 20);
        Check.due("end", x.end(9), 9);
        Check.due("second feed", x.feed(0x6c6f7665, 0x20302034, 0x3b202020, BLANKS, BLANKS), 29);
        Check.due("text of both", x.text(0, -1), 0);
        Check.due("guests of the first", x.inn(0, 1), 5);
        Check.due("love of the second", x.inn(0, 50), 16);
    }

    /** "of each number the highest first": the 20 signs of a line, one number after the other, blanks for the others. */
    private static void feedTakesEachNumberTheHighestByteFirst() {
        String signs = "table 1 2 3;guests 7";
        int[] n = new int[5];
        for (int i = 0; i < 20; i++) {
            n[i / 4] |= signs.charAt(i) << 24 - 8 * (i % 4);
        }
        GrainInn x = new GrainInn();
        x.feed(n[0], n[1], n[2], n[3], n[4]);
        x.feed(0x3b202020, BLANKS, BLANKS, BLANKS, BLANKS);
        Check.due("text", x.text(0, -1), 0);
        Check.due("seats", x.inn(0, 10), 1);
        Check.due("keeps", x.inn(0, 20), 2);
        Check.due("price", x.inn(0, 30), 3);
        Check.due("guests", x.inn(0, 1), 7);
        for (int i = 0; i < 20; i++) {
            int[] bad = {BLANKS, BLANKS, BLANKS, BLANKS, BLANKS};
            bad[i / 4] = bad[i / 4] & ~(255 << 24 - 8 * (i % 4)) | 0xfe << 24 - 8 * (i % 4);
            x.feed(bad[0], bad[1], bad[2], bad[3], bad[4]);
            Check.due("a byte 254 at " + i, x.text(0, -1), -1);
            Check.due("its place", x.fault(1), i);
        }
    }

    /** "NONE, and nothing comes, if there would be more than 600." */
    private static void feedTakesNothingBeyond600() {
        for (int length = 580; length <= 600; length++) {
            GrainInn x = new GrainInn();
            for (int i = 0; i < 30; i++) {
                x.feed(BLANKS, BLANKS, BLANKS, BLANKS, BLANKS);
            }
            Check.due("end", x.end(length), length);
            int due = length + 20 <= 600 ? length + 20 : -1;
            Check.due("feed behind " + length, x.feed(-1, -1, -1, -1, -1), due);
            int has = length + 20 <= 600 ? length + 20 : length;
            Check.due("it has no more", x.end(has + 1), -1);
            Check.due("it has so many", x.end(has), has);
            Check.due("its text", x.text(0, -1), has == length ? 0 : -1);
        }
    }

    /** "NONE if it has not so many, or n is below 0." */
    private static void endHasNotSoManyOrIsBelow0() {
        GrainInn x = new GrainInn();
        Check.due("end(1) of nothing", x.end(1), -1);
        Check.due("end(0) of nothing", x.end(0), 0);
        x.feed(BLANKS, BLANKS, BLANKS, BLANKS, BLANKS);
        for (int n : new int[] {-1, -2, -20, Integer.MIN_VALUE, 21, 40, 600, 601, Integer.MAX_VALUE}) {
            Check.due("end(" + n + ") of 20", x.end(n), -1);
        }
        Check.due("all are left", x.end(20), 20);
        Check.due("end(19)", x.end(19), 19);
        Check.due("end(20) of 19", x.end(20), -1);
        Check.due("end(0)", x.end(0), 0);
        Check.due("end(1) of none", x.end(1), -1);
    }

    /** "THE TAPE has at most 600 bytes": its last one is read, too, and "the end's" place is 600. */
    private static void tapeOf600IsReadWhole() {
        String whole = "guests 5" + " ".repeat(591) + ";";
        Check.fault(whole, 0, 0, -1);
        Check.fault(whole.substring(0, 599) + " ", 0, 1, 600);
        Check.fault(whole.substring(0, 599) + "#", 0, 1, 599);
        Check.fault("love 0 4" + " ".repeat(591) + ";", 0, 4, 600);
        Check.fault("night;".repeat(40) + "\n".repeat(360), 1, 0, -1);
        Check.fault("night;".repeat(40) + "\n".repeat(355) + "night", 1, 1, 600);
    }

    /** Each sort's text is a row in braces: it may be empty, and blanks alone are so, too. */
    private static void emptyTextsAreTexts() {
        for (int sort = 0; sort < 4; sort++) {
            Check.fault("", sort, 0, -1);
            Check.fault(" ", sort, 0, -1);
            Check.fault("\n \n", sort, 0, -1);
            Check.fault(";", sort, 1, 0);
            Check.fault(" 1", sort, 1, 1);
        }
        GrainInn x = Check.with("", "");
        Check.take(x, 2, "");
        Check.take(x, 3, "");
        Check.due("no tables", x.inn(0, 0), 0);
        Check.due("no deeds", x.deed(0, -1, 0), 0);
        Check.due("no wishes", x.wish(0, -1, 0), 0);
        Check.due("no rows", x.heard(0, -1), 0);
        Check.due("no deed stops it", x.stop(0, 0), 0);
    }

    /** Every number of one and of two digits between two parts of a text of a sort. */
    private static void range(int sort, String before, String after, int least, int most) {
        for (int value = 0; value < 100; value++) {
            boolean can = value >= least && value <= most;
            Check.fault(before + value + after, sort, can ? 0 : 2, can ? -1 : before.length());
            if (value < 10) {
                Check.fault(before + '0' + value + after, sort, can ? 0 : 2, can ? -1 : before.length());
            }
        }
    }

    /** "SEATS, 1 .. 8, KEEPS, 1 .. 6, a PRICE, 0 .. 9" */
    private static void seatsKeepsAndPrice() {
        range(0, "table ", " 1 0;", 1, 8);
        range(0, "table 1 ", " 0;", 1, 6);
        range(0, "table 1 1 ", ";", 0, 9);
        for (int value = 0; value < 10; value++) {
            GrainInn x = new GrainInn();
            int seats = Math.min(8, Math.max(1, value));
            int keeps = Math.min(6, Math.max(1, value));
            Check.take(x, 0, "table " + seats + " 0" + keeps + " " + value + ";");
            Check.due("seats", x.inn(0, 10), seats);
            Check.due("keeps", x.inn(0, 20), keeps);
            Check.due("price", x.inn(0, 30), value);
        }
    }

    /** "GUESTS, 1 .. 8" */
    private static void guests() {
        range(0, "guests ", ";", 1, 8);
        for (int many = 1; many <= 8; many++) {
            GrainInn x = new GrainInn();
            Check.take(x, 0, "guests " + many + ";");
            Check.due("guests", x.inn(0, 1), many);
        }
    }

    /** "(4 at first)" */
    private static void guestsAreFourAtFirst() {
        GrainInn x = Check.with("table 1 1 1;love 3 0;", "sit 0 3;night;sit 0 4;");
        Check.due("guests without a line of them", x.inn(0, 1), 4);
        Check.due("guest 3 sits, guest 4 is not there", x.stop(0, 0), 2);
        Check.take(x, 0, 0, "guests 8;");
        Check.take(x, 0, 0, "table 1 1 1;");
        Check.due("four again in its place", x.inn(0, 1), 4);
    }

    /** "(each the other; one couple may do both)" */
    private static void couplesAreEachTheOthers() {
        GrainInn x = new GrainInn();
        Check.take(x, 0, "guests 8;quarrel 7 0;love 0 7;love 3 2;quarrel 4 5;");
        int[] quarrels = {128, 0, 0, 0, 32, 16, 0, 1};
        int[] loves = {128, 0, 8, 4, 0, 0, 0, 1};
        for (int g = 0; g < 8; g++) {
            Check.due("with whom " + g + " quarrels", x.inn(0, 40 + g), quarrels[g]);
            Check.due("whom " + g + " loves", x.inn(0, 50 + g), loves[g]);
        }
        Check.take(x, 0, "quarrel 0 1;quarrel 0 1;quarrel 1 0;");
        Check.due("told three times", x.inn(1, 40), 2);
        Check.due("the other way round", x.inn(1, 41), 1);
    }

    /** Two numbers up to a greatest one, the second one not the first. */
    private static void unlike(int sort, String word, String rest, int most) {
        for (int one = 0; one < 12; one++) {
            for (int two = 0; two < 12; two++) {
                String first = word + " " + one + " ";
                int place = one > most ? word.length() + 1 : first.length();
                boolean can = one <= most && two <= most && one != two;
                Check.fault(first + two + ";" + rest, sort, can ? 0 : 2, can ? -1 : place);
            }
        }
    }

    /** "(.. quarrel, love: guests, 0 .. 7)" */
    private static void guestsOfCouples() {
        unlike(0, "quarrel", "guests 8;", 7);
        unlike(0, "love", "guests 8;", 7);
    }

    /** "(sit: a TABLE, 0 .. 4, guests; say: a guest, a WORD, 0 .. 9; scrub: a TABLE; join, split: two TABLES)" */
    private static void numbersOfDeeds() {
        range(1, "sit ", " 0;", 0, 4);
        range(1, "sit 0 ", ";", 0, 7);
        range(1, "sit 4 7 ", ";", 0, 6);
        range(1, "sit 4 0 1 2 3 4 5 6 ", ";", 7, 7);
        range(1, "say ", " 0;", 0, 7);
        range(1, "say 0 ", ";", 0, 9);
        range(1, "scrub ", ";", 0, 4);
        unlike(1, "join", "", 4);
        unlike(1, "split", "", 4);
    }

    /** "(hear, shun: a guest, a WORD; apart, beside: two guests)", "a guest was heard, 0 .. 7" */
    private static void numbersOfWishesAndRows() {
        for (String word : new String[] {"hear ", "shun "}) {
            range(2, word, " 0;", 0, 7);
            range(2, word + "7 ", ";", 0, 9);
        }
        unlike(2, "apart", "", 7);
        unlike(2, "beside", "", 7);
        range(3, "heard ", ";", 0, 7);
    }

    /** "blanks (10, 32) between": each of the 256 bytes between a word and its end. */
    private static void blanksAre10And32Alone() {
        for (int sign = 0; sign < 256; sign++) {
            String text = "night" + (char) sign + ";";
            if (sign == 10 || sign == 32) {
                Check.fault(text, 1, 0, -1);
            } else if (sign >= 'a' && sign <= 'z') {
                Check.fault(text, 1, 1, 0);
            } else {
                Check.fault(text, 1, 1, sign == ';' ? 6 : 5);
            }
        }
        Check.fault("\n table\n1  1 \n0\n;\n", 0, 0, -1);
        Check.fault("ni ght;", 1, 1, 0);
        Check.fault("nigh\nt;", 1, 1, 0);
    }

    /** "words, rows of letters a .. z": each of the 256 bytes where a line begins. */
    private static void lettersAreAToZ() {
        for (int sign = 0; sign < 256; sign++) {
            String text = (char) sign + "ight;";
            boolean blank = sign == 10 || sign == 32;
            Check.fault(text, 1, sign == 'n' ? 0 : 1, sign == 'n' ? -1 : blank ? 1 : 0);
        }
        Check.fault("NIGHT;", 1, 1, 0);
        Check.fault("nightnight;", 1, 1, 0);
        Check.fault("nigh;", 1, 1, 0);
        Check.fault("n;", 1, 1, 0);
    }

    /** Each of the 256 bytes behind a digit. */
    private static void digitsAre0To9() {
        for (int sign = 0; sign < 256; sign++) {
            String text = "say 0 0" + (char) sign + ";";
            boolean fine = sign == 10 || sign == 32 || sign >= '0' && sign <= '9';
            Check.fault(text, 1, fine ? 0 : 1, fine ? -1 : sign == ';' ? 8 : 7);
        }
    }

    /** "NUMBERS, 1 or 2 digits", "(a longer row of digits is no token)" */
    private static void numbersHaveOneOrTwoDigits() {
        Check.fault("say 1 1;", 1, 0, -1);
        Check.fault("say 01 01;", 1, 0, -1);
        Check.fault("say 001 1;", 1, 1, 4);
        Check.fault("say 1 001;", 1, 1, 6);
        Check.fault("say 1 0000000001;", 1, 1, 6);
        Check.fault("say 1 999", 1, 1, 6);
        Check.fault("say 1 1 111;", 1, 1, 8);
        Check.fault("111;", 1, 1, 0);
        GrainInn x = new GrainInn();
        Check.take(x, 1, "say 07 09;");
        Check.due("07", x.deed(0, 0, 1), 7);
        Check.due("09", x.deed(0, 0, 2), 9);
    }

    /** "TOKENS, as long as they go" */
    private static void tokensGoAsLongAsTheyGo() {
        Check.fault("say 12;", 1, 1, 6);
        Check.fault("sit 012;", 1, 1, 4);
        Check.fault("sit 01 2;", 1, 0, -1);
        Check.fault("sit0 1;say1 2;night;scrub0;", 1, 0, -1);
        Check.fault("saynight;", 1, 1, 0);
        Check.fault("say 1a 2;", 1, 1, 5);
        Check.fault("say 1\n2\n;\nnight ; ", 1, 0, -1);
    }

    /** Each line with its numbers, with one less, with one more, without its end. */
    private static void eachLineHasItsNumbers() {
        for (int sort = 0; sort < 4; sort++) {
            for (int i = 0; i < WORDS[sort].length; i++) {
                String word = WORDS[sort][i];
                String line = word + NUMBERS[sort][i];
                boolean more = word.equals("sit");
                Check.fault(line + ";", sort, 0, -1);
                Check.fault(line, sort, 1, line.length());
                Check.fault(line + " \n", sort, 1, line.length() + 2);
                Check.fault(line + " 2;", sort, more ? 0 : 1, more ? -1 : line.length() + 1);
                Check.fault(line + " night;", sort, 1, line.length() + 1);
                Check.fault(line + ";;", sort, 1, line.length() + 1);
                for (int cut = line.lastIndexOf(' '); cut > 0; cut = line.lastIndexOf(' ', cut - 1)) {
                    Check.fault(line.substring(0, cut) + ";", sort, 1, cut);
                    Check.fault(line.substring(0, cut) + " x;", sort, 1, cut + 1);
                    Check.fault(line.substring(0, cut), sort, 1, cut);
                }
            }
        }
    }

    private static void wordsOfAnotherSort() {
        for (int sort = 0; sort < 4; sort++) {
            for (int other = 0; other < 4; other++) {
                for (int i = 0; i < WORDS[other].length; i++) {
                    String line = WORDS[other][i] + NUMBERS[other][i] + ";";
                    Check.fault(line, sort, sort == other ? 0 : 1, sort == other ? -1 : 0);
                    Check.fault(LINE[sort] + line, sort, sort == other ? 0 : 1, sort == other ? -1 : LINE[sort].length());
                }
            }
        }
    }

    /** "Later ones strike (guests)" */
    private static void laterGuestsStrike() {
        GrainInn x = new GrainInn();
        Check.take(x, 0, "guests 8;guests 2;");
        Check.due("the later ones, fewer", x.inn(0, 1), 2);
        Check.take(x, 0, 0, "guests 2;table 1 1 1;guests 8;");
        Check.due("the later ones, more", x.inn(0, 1), 8);
    }

    /** "but TABLES, QUARRELS, LOVES, DEEDS, WISHES, ROWS, which are further ones" */
    private static void othersAreFurtherOnes() {
        GrainInn x = new GrainInn();
        Check.take(x, 0, "table 1 1 1;table 1 1 1;quarrel 0 1;quarrel 0 2;love 0 1;love 0 3;");
        Check.take(x, 1, "night;night;");
        Check.take(x, 2, "hear 0 0;hear 0 0;");
        Check.take(x, 3, "silence;silence;");
        Check.due("tables", x.inn(0, 0), 2);
        Check.due("quarrels", x.inn(0, 40), 6);
        Check.due("loves", x.inn(0, 50), 10);
        Check.due("deeds", x.deed(0, -1, 0), 2);
        Check.due("wishes", x.wish(0, -1, 0), 2);
        Check.due("rows", x.heard(0, -1), 2);
        for (int sort = 0; sort < 4; sort++) {
            GrainInn y = new GrainInn();
            Check.take(y, sort, LINE[sort].repeat(MOST[sort]));
            int many = sort == 0 ? y.inn(0, 0) : sort == 1 ? y.deed(0, -1, 0) : sort == 2 ? y.wish(0, -1, 0) : y.heard(0, -1);
            Check.due("as many as may be of sort " + sort, many, MOST[sort]);
        }
    }
}
