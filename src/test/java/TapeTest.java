/** Promises 1 to 5 and 28: a new object, the tape, texts and their faults, how many there are. */
final class TapeTest {
    private static final int BLANKS = 0x20202020;

    public static void main(String[] args) {
        newObject();
        feed();
        feedPutsTheHighestByteFirst();
        end();
        text();
        textThatCannotBeTaken();
        formFaults();
        numberFaults();
        sitFaults();
        tooMany();
        guestsThatAreNotThere();
        firstFaultCounts();
        tokens();
        fault();
        count();
        Check.finish();
    }

    private static int blanks(GrainInn x) {
        return x.feed(BLANKS, BLANKS, BLANKS, BLANKS, BLANKS);
    }

    private static void newObject() {
        GrainInn x = new GrainInn();
        Check.due("NONE", GrainInn.NONE, -1);
        for (int sort = 0; sort < 4; sort++) {
            Check.due("count of a new one", x.count(sort), 0);
        }
        for (int k = -1; k < 4; k++) {
            Check.due("again of a new one", x.again(k), false);
        }
        Check.due("end(0) of a new one", x.end(0), 0);
        Check.due("end(1) of a new one", x.end(1), -1);
        Check.due("fault(0) of a new one", x.fault(0), 0);
        Check.due("fault(1) of a new one", x.fault(1), -1);
    }

    private static void feed() {
        GrainInn x = new GrainInn();
        for (int i = 1; i <= 30; i++) {
            Check.due("feed " + i, blanks(x), 20 * i);
        }
        Check.due("feed beyond 600", blanks(x), -1);
        Check.due("nothing came", x.end(600), 600);
        Check.due("end(581)", x.end(581), 581);
        Check.due("feed to 601", blanks(x), -1);
        Check.due("nothing came to 581", x.end(582), -1);
        Check.due("end(580)", x.end(580), 580);
        Check.due("feed to 600", blanks(x), 600);
    }

    private static void feedPutsTheHighestByteFirst() {
        GrainInn x = new GrainInn();
        x.feed(0x7461626c, 0x65203120, 0x3220333b, BLANKS, BLANKS);
        Check.due("text of table 1 2 3;", x.text(0, -1), 0);
        Check.due("seats", x.inn(0, 10), 1);
        Check.due("keeps", x.inn(0, 20), 2);
        Check.due("price", x.inn(0, 30), 3);
        x.feed(BLANKS, 0x20ff2020, BLANKS, BLANKS, 0xffffffff);
        Check.due("text of a byte 255", x.text(0, -1), -1);
        Check.due("place of a byte 255", x.fault(1), 5);
        x.feed(BLANKS, BLANKS, BLANKS, BLANKS, 0x80202020);
        Check.due("text of a byte 128", x.text(0, -1), -1);
        Check.due("place of a byte 128", x.fault(1), 16);
    }

    private static void end() {
        GrainInn x = new GrainInn();
        blanks(x);
        Check.due("end(21)", x.end(21), -1);
        Check.due("end(-1)", x.end(-1), -1);
        Check.due("end(least)", x.end(Integer.MIN_VALUE), -1);
        Check.due("end(20)", x.end(20), 20);
        Check.due("end(7)", x.end(7), 7);
        Check.due("end(8)", x.end(8), -1);
        Check.due("feed behind 7", blanks(x), 27);
        Check.due("end(0)", x.end(0), 0);
        Check.due("feed behind 0", blanks(x), 20);
    }

    private static void text() {
        GrainInn x = new GrainInn();
        Check.due("an empty text", x.text(0, -1), 0);
        Check.due("guests at first", x.inn(0, 1), 4);
        Check.due("second inn", Check.take(x, 0, "guests 2;"), 1);
        Check.due("the tape is empty then", x.end(1), -1);
        Check.due("in the place of the first", Check.take(x, 0, 0, "guests 7;"), 0);
        Check.due("guests of the first", x.inn(0, 1), 7);
        Check.due("guests of the second", x.inn(1, 1), 2);
        Check.due("a fault in its place", Check.take(x, 0, 0, "guests 9;"), -1);
        Check.due("the tape is empty behind a fault", x.end(1), -1);
        Check.due("the first is as it was", x.inn(0, 1), 7);
        Check.due("a shorter one in its place", Check.take(x, 0, 0, ""), 0);
        Check.due("nothing is left of the old one", x.inn(0, 1), 4);
        Check.due("evenings", Check.take(x, 1, "night;night;"), 0);
        Check.due("evenings in their place", Check.take(x, 1, 0, "night;"), 0);
        Check.due("how many deeds", x.deed(0, -1, 0), 1);
    }

    private static void textThatCannotBeTaken() {
        for (int sort = 0; sort < 4; sort++) {
            GrainInn x = new GrainInn();
            Check.due("in a place that is not there", Check.take(x, sort, 0, "#"), -2);
            Check.due("no text is read", x.fault(0), 0);
            Check.due("the tape is empty", x.end(1), -1);
            Check.due("first", Check.take(x, sort, ""), 0);
            Check.due("place 1 of one", Check.take(x, sort, 1, ""), -2);
            Check.due("place -2", Check.take(x, sort, -2, ""), -2);
            Check.due("second", Check.take(x, sort, ""), 1);
            Check.due("a fault", Check.take(x, sort, 1, "#"), -1);
            Check.due("fault 1", x.fault(0), 1);
            Check.due("third", Check.take(x, sort, "#"), -2);
            Check.due("fault 0 behind a third", x.fault(0), 0);
            Check.due("place behind a third", x.fault(1), -1);
            Check.due("place 2", Check.take(x, sort, 2, ""), -2);
            Check.due("still two", x.count(sort), 2);
        }
        GrainInn x = new GrainInn();
        for (int sort : new int[] {-1, 4, Integer.MIN_VALUE, Integer.MAX_VALUE}) {
            Check.due("no such sort", Check.take(x, sort, "guests 1;"), -2);
            Check.due("the tape is empty behind it", x.end(1), -1);
            Check.due("no such sort, in a place", Check.take(x, sort, 0, ""), -2);
        }
    }

    private static void formFaults() {
        Check.fault("", 0, 0, -1);
        Check.fault(" \n ", 0, 0, -1);
        Check.fault("table 2 3 4", 0, 1, 11);
        Check.fault("table 2 3 4  ", 0, 1, 13);
        Check.fault("table 2 3 ;", 0, 1, 10);
        Check.fault("table 2 3 4 5;", 0, 1, 12);
        Check.fault("tables 2 3 4;", 0, 1, 0);
        Check.fault("guests 1; tabl", 0, 1, 10);
        Check.fault("guests 123;", 0, 1, 7);
        Check.fault("guests 3a;", 0, 1, 8);
        Check.fault(";", 0, 1, 0);
        Check.fault("guests 3;;", 0, 1, 9);
        Check.fault("7", 0, 1, 0);
        Check.fault("guests #;", 0, 1, 7);
        Check.fault("guests\t3;", 0, 1, 6);
        Check.fault("Guests 3;", 0, 1, 0);
        Check.fault("gueSts 3;", 0, 1, 0);
        Check.fault("guests 3\r;", 0, 1, 8);
        Check.fault("sit 0;", 1, 1, 5);
        Check.fault("sit;", 1, 1, 3);
        Check.fault("sit 0 1 2", 1, 1, 9);
        Check.fault("sit 0 1 222;", 1, 1, 8);
        Check.fault("night 1;", 1, 1, 6);
        Check.fault("say 1;", 1, 1, 5);
        Check.fault("scrub;", 1, 1, 5);
        Check.fault("join 1;", 1, 1, 6);
        Check.fault("split 1 2 3;", 1, 1, 10);
        Check.fault("table 1 1 1;", 1, 1, 0);
        Check.fault("hear 1;", 2, 1, 6);
        Check.fault("apart 1 2 3;", 2, 1, 10);
        Check.fault("heard 1;", 2, 1, 0);
        Check.fault("heard;", 3, 1, 5);
        Check.fault("silence 1;", 3, 1, 8);
        Check.fault("hear 1 1;", 3, 1, 0);
    }

    private static void numberFaults() {
        Check.fault("table 1 1 0;table 8 6 9;", 0, 0, -1);
        Check.fault("table 0 1 0;", 0, 2, 6);
        Check.fault("table 9 1 0;", 0, 2, 6);
        Check.fault("table 1 0 0;", 0, 2, 8);
        Check.fault("table 1 7 0;", 0, 2, 8);
        Check.fault("table 1 1 10;", 0, 2, 10);
        Check.fault("guests 1;guests 8;", 0, 0, -1);
        Check.fault("guests 0;", 0, 2, 7);
        Check.fault("guests 9;", 0, 2, 7);
        Check.fault("quarrel 1 1;", 0, 2, 10);
        Check.fault("quarrel 8 1;", 0, 2, 8);
        Check.fault("quarrel 8 8;", 0, 2, 8);
        Check.fault("love 2 2;", 0, 2, 7);
        Check.fault("love 0 8;", 0, 2, 7);
        Check.fault("quarrel 0 1;love 0 1;love 1 0;", 0, 0, -1);
        Check.fault("say 8 0;", 1, 2, 4);
        Check.fault("say 7 9;", 1, 0, -1);
        Check.fault("say 0 10;", 1, 2, 6);
        Check.fault("scrub 4;", 1, 0, -1);
        Check.fault("scrub 5;", 1, 2, 6);
        Check.fault("join 1 1;", 1, 2, 7);
        Check.fault("join 5 1;", 1, 2, 5);
        Check.fault("join 4 0;split 0 4;", 1, 0, -1);
        Check.fault("split 0 5;", 1, 2, 8);
        Check.fault("split 3 03;", 1, 2, 8);
        Check.fault("hear 7 9;shun 7 9;apart 0 7;beside 7 0;", 2, 0, -1);
        Check.fault("hear 8 0;", 2, 2, 5);
        Check.fault("hear 0 10;", 2, 2, 7);
        Check.fault("shun 8 0;", 2, 2, 5);
        Check.fault("shun 0 10;", 2, 2, 7);
        Check.fault("hear 1 1;shun 1 1;", 2, 0, -1);
        Check.fault("apart 1 1;", 2, 2, 8);
        Check.fault("beside 0 8;", 2, 2, 9);
        Check.fault("beside 3 3;", 2, 2, 9);
        Check.fault("heard 7;", 3, 0, -1);
        Check.fault("heard 8;", 3, 2, 6);
    }

    private static void sitFaults() {
        Check.fault("sit 4 0 1 2 3 4 5 6 7;", 1, 0, -1);
        Check.fault("sit 5 0;", 1, 2, 4);
        Check.fault("sit 0 8;", 1, 2, 6);
        Check.fault("sit 0 1 8;", 1, 2, 8);
        Check.fault("sit 0 1 1;", 1, 2, 8);
        Check.fault("sit 0 1 2 1;", 1, 2, 10);
        Check.fault("sit 0 1 01;", 1, 2, 8);
        Check.fault("sit 1 1;", 1, 0, -1);
        Check.fault("sit 0 1;sit 0 1;", 1, 0, -1);
    }

    private static void tooMany() {
        String table = "table 1 1 0;";
        Check.fault(table.repeat(5), 0, 0, -1);
        Check.fault(table.repeat(6), 0, 3, 60);
        Check.fault(table.repeat(5) + "table 9 1 0;", 0, 3, 60);
        Check.fault("table 9 1 0;" + table.repeat(5), 0, 2, 6);
        Check.fault(table.repeat(5) + "guests 3;quarrel 0 1;love 0 1;", 0, 0, -1);
        Check.fault("night;".repeat(40), 1, 0, -1);
        Check.fault("night;".repeat(41), 1, 3, 240);
        Check.fault("night;".repeat(42), 1, 3, 240);
        Check.fault("hear 0 0;".repeat(10), 2, 0, -1);
        Check.fault("hear 0 0;".repeat(10) + " shun 0 0;", 2, 3, 91);
        Check.fault("silence;".repeat(7), 3, 0, -1);
        Check.fault("silence;".repeat(8), 3, 3, 56);
        Check.fault("silence;".repeat(7) + "heard 9;", 3, 3, 56);
    }

    private static void guestsThatAreNotThere() {
        Check.fault("love 0 3;", 0, 0, -1);
        Check.fault("love 0 4;", 0, 4, 9);
        Check.fault("love 0 4; ", 0, 4, 10);
        Check.fault("love 0 4;quarrel 0 1;", 0, 4, 21);
        Check.fault("love 0 4;guests 5;", 0, 0, -1);
        Check.fault("guests 5;love 0 4;guests 4;", 0, 4, 27);
        Check.fault("guests 1;quarrel 1 0;", 0, 4, 21);
        Check.fault("quarrel 7 0;guests 8;", 0, 0, -1);
        Check.fault("quarrel 7 0;guests 7;", 0, 4, 21);
        Check.fault("quarrel 7 0;guests 9;", 0, 2, 19);
        Check.fault("quarrel 7 0;guests 3", 0, 1, 20);
    }

    private static void firstFaultCounts() {
        Check.fault("guests 9;guests 0;", 0, 2, 7);
        Check.fault("guests 9;#", 0, 1, 9);
        Check.fault("guests 9", 0, 1, 8);
        Check.fault("silence;".repeat(8) + "heard", 3, 1, 69);
        Check.fault("sit 0 8 8 8;", 1, 2, 6);
        Check.fault("table 0 0 10;", 0, 2, 6);
    }

    private static void tokens() {
        Check.fault("table2 3 4;", 0, 0, -1);
        Check.fault("table 02 03 04 ; guests\n03\n;\n", 0, 0, -1);
        Check.fault("table 2 34;", 0, 1, 10);
        Check.fault("guests 0 3;", 0, 1, 9);
        Check.fault("guests3;love0 1;", 0, 0, -1);
        Check.fault("loveguests 3;", 0, 1, 0);
        Check.fault("nightz;", 1, 1, 0);
        Check.fault("nightaz;", 1, 1, 0);
        Check.fault("tight;", 1, 1, 0);
        Check.fault("nighs;", 1, 1, 0);
        Check.fault("night`;", 1, 1, 5);
        Check.fault("night{;", 1, 1, 5);
        Check.fault("say 0 /;", 1, 1, 6);
        Check.fault("say 0 :;", 1, 1, 6);
        Check.fault("guests 000;", 0, 1, 7);
    }

    private static void fault() {
        GrainInn x = new GrainInn();
        Check.due("a fault", Check.take(x, 1, "night;night"), -1);
        Check.due("fault(0)", x.fault(0), 1);
        Check.due("fault(1)", x.fault(1), 11);
        Check.due("fault(2)", x.fault(2), -1);
        Check.due("fault(-1)", x.fault(-1), -1);
        x.end(0);
        Check.due("fault stays", x.fault(0), 1);
        Check.due("no fault", Check.take(x, 1, "night;"), 0);
        Check.due("fault(0) without", x.fault(0), 0);
        Check.due("fault(1) without", x.fault(1), -1);
    }

    private static void count() {
        GrainInn x = new GrainInn();
        Check.take(x, 1, "night;");
        Check.take(x, 1, "night;");
        Check.take(x, 3, "silence;");
        Check.due("inns", x.count(0), 0);
        Check.due("evenings", x.count(1), 2);
        Check.due("wishes", x.count(2), 0);
        Check.due("hearings", x.count(3), 1);
        Check.take(x, 1, 1, "");
        Check.due("in a place it is no more", x.count(1), 2);
        Check.due("count(4)", x.count(4), -2);
        Check.due("count(-1)", x.count(-1), -2);
    }
}
