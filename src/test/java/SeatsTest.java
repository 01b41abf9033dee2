/** Promises 12 and 13: wishes, and the seating by them. */
final class SeatsTest {
    public static void main(String[] args) {
        wish();
        noWishes();
        eachWish();
        wishesOfGuestsWhoAreNotThere();
        shunWithoutPasts();
        manyWishesOfOne();
        harmGoesBeforePaid();
        ghostsArePaidOnce();
        sixGuests();
        seatsThatAreNot();
        Check.finish();
    }

    private static void wish() {
        GrainInn x = new GrainInn();
        Check.take(x, 2, "hear 7 9;shun 0 1;apart 2 3;beside 5 4;");
        int[][] want = {{0, 7, 9}, {1, 0, 1}, {2, 2, 3}, {3, 5, 4}};
        Check.due("how many", x.wish(0, -1, 0), 4);
        Check.due("how many, what 1", x.wish(0, -1, 1), -2);
        for (int k = 0; k < 4; k++) {
            for (int what = 0; what < 3; what++) {
                Check.due("wish " + k + " " + what, x.wish(0, k, what), want[k][what]);
            }
            Check.due("wish what 3", x.wish(0, k, 3), -2);
        }
        Check.due("wish what -1", x.wish(0, 0, -1), -2);
        Check.due("wish 4", x.wish(0, 4, 0), -2);
        Check.due("wish -2", x.wish(0, -2, 0), -2);
        Check.due("wishes 1", x.wish(1, -1, 0), -2);
    }

    private static GrainInn wishing(String inn, String evenings, String wishes) {
        GrainInn x = Check.with(inn, evenings);
        Check.due("wishes " + wishes, Check.take(x, 2, wishes), 0);
        return x;
    }

    private static void seated(GrainInn x, String of, int n, int harm, int paid, int ways, int... row) {
        Check.due(of + " harm", x.seats(0, 0, n, 0, 0), harm);
        Check.due(of + " paid", x.seats(0, 0, n, 0, 1), paid);
        Check.due(of + " ways", x.seats(0, 0, n, 0, 2), ways);
        for (int g = 0; g < 8; g++) {
            Check.due(of + " table of " + g, x.seats(0, 0, n, 0, 10 + g), g < row.length ? row[g] : -1);
        }
    }

    /** Repeated would be {1, 3} with the word 7 at table 0, {1} without a word at table 1. */
    private static void known(String wishes, int harm, int paid, int ways, int... row) {
        GrainInn x = wishing(StateTest.INN, StateTest.EVENINGS, wishes);
        seated(x, wishes, 10, harm, paid, ways, row);
    }

    private static void noWishes() {
        known("", 1, 11, 10, 0, 1, 0, 1);
    }

    private static void eachWish() {
        known("apart 0 1;", 1, 11, 6, 0, 1, 0, 1);
        known("shun 2 7;beside 0 2;", 1, 11, 1, 1, 0, 1, 0);
        known("hear 0 7;", 1, 11, 6, 0, 1, 0, 1);
        known("shun 0 7;", 1, 11, 4, 1, 0, 0, 1);
        known("beside 0 1;", 2, 11, 4, 0, 0, 1, 1);
        known("hear 1 5;", -1, -1, 0);
        known("hear 0 7;hear 1 7;hear 2 7;hear 3 7;", -1, -1, 0);
        known("apart 0 1;beside 1 0;", -1, -1, 0);
        known("apart 3 0;apart 0 3;", 1, 11, 6, 0, 1, 0, 1);
        known("apart 0 2;apart 2 0;", 1, 11, 6, 0, 1, 1, 0);
    }

    private static void wishesOfGuestsWhoAreNotThere() {
        known("hear 4 7;", -1, -1, 0);
        known("shun 4 7;", -1, -1, 0);
        known("apart 0 4;", -1, -1, 0);
        known("apart 7 0;", -1, -1, 0);
        known("beside 4 5;", -1, -1, 0);
    }

    private static void shunWithoutPasts() {
        seated(wishing("table 2 1 1;guests 1;", "", "shun 0 3;"), "shun", 0, 0, 1, 1, 0);
        seated(wishing("table 2 1 1;guests 1;", "", "hear 0 3;"), "hear", 0, -1, -1, 0);
    }

    private static void manyWishesOfOne() {
        String three = "table 4 1 0;table 4 1 0;table 4 1 0;guests 3;";
        seated(wishing(three, "", "apart 0 1;apart 0 2;apart 1 2;"), "all apart", 0, 0, 0, 6, 0, 1, 2);
        seated(wishing(three, "", "apart 2 0;apart 2 1;"), "2 apart", 0, 0, 0, 12, 0, 0, 1);
        seated(wishing(three, "", "beside 2 0;beside 2 1;"), "all beside", 0, 0, 0, 3, 0, 0, 0);
        seated(wishing(three, "", "beside 0 1;apart 1 2;shun 0 4;"), "two beside", 0, 0, 0, 6, 0, 0, 1);
        GrainInn x = wishing(three, "sit 0 0;say 0 4;sit 1 1;say 1 4;sit 2 2;say 2 5;night;", "hear 0 4;shun 1 4;");
        seated(x, "two tables with the word", 7, 0, 0, 6, 0, 2, 0);
    }

    private static void harmGoesBeforePaid() {
        GrainInn x = wishing("table 2 1 0;table 2 1 9;guests 2;quarrel 0 1;", "", "");
        seated(x, "apart is dear", 0, 0, 9, 4, 0, 1);
        GrainInn y = wishing("table 2 1 9;table 2 1 0;guests 2;", "", "");
        seated(y, "the cheaper one", 0, 0, 0, 4, 1, 1);
    }

    private static void ghostsArePaidOnce() {
        GrainInn x = wishing("table 4 1 3;guests 3;", "sit 0 0 1 2;night;", "");
        seated(x, "three and three ghosts", 2, 0, 18, 1, 0, 0, 0);
    }

    private static void sixGuests() {
        String five = "table 8 1 0;".repeat(5);
        seated(wishing(five + "guests 6;", "", ""), "six", 0, 0, 0, 15625, 0, 0, 0, 0, 0, 0);
        seated(wishing(five + "guests 7;", "", ""), "seven", 0, -1, -1, -1);
        seated(wishing("table 1 1 0;".repeat(5) + "guests 6;", "", ""), "too few seats", 0, -1, -1, 0);
        seated(wishing("guests 1;", "", ""), "no tables", 0, -1, -1, 0);
    }

    private static void seatsThatAreNot() {
        GrainInn x = wishing(StateTest.INN, StateTest.EVENINGS, "");
        for (int what : new int[] {0, 1, 2, 10}) {
            Check.due("somebody sits", x.seats(0, 0, 9, 0, what), -1);
            Check.due("no state", x.seats(0, 0, 11, 0, what), -1);
            Check.due("no inn", x.seats(1, 0, 0, 0, what), -1);
            Check.due("no evenings", x.seats(0, 1, 0, 0, what), -1);
            Check.due("no wishes", x.seats(0, 0, 0, 1, what), -1);
        }
        for (int what : new int[] {-1, 3, 9, 14, 18, Integer.MAX_VALUE, Integer.MIN_VALUE}) {
            Check.due("seats what " + what, x.seats(0, 0, 10, 0, what), -1);
        }
    }
}
