import java.util.ArrayList;
import java.util.List;

/** No answer depends on what was asked or told before, but for what is told now: each call alone, in a row, and back. */
final class EdgeOrderTest {
    private static final String LARGE = "table 4 6 3;table 4 3 1;table 3 2 0;guests 6;quarrel 0 1;quarrel 2 3;love 0 2;love 1 4;love 3 5;";
    private static final String SMALL = "table 2 1 1;table 1 2 5;guests 3;quarrel 1 2;love 0 1;";
    private static final String LONG = "sit 0 0 2;say 0 1;sit 1 1;say 1 9;night;sit 0 1 0;say 1 3;sit 1 2;say 2 0;night;"
        + "sit 0 2;night;sit 0 1;say 1 4;night;";
    private static final String SHORT = "sit 1 2;say 2 5;night;sit 0 1;night;";
    private static final String FIRST_WISHES = "apart 0 1;beside 0 2;shun 1 4;";
    private static final String SECOND_WISHES = "beside 1 0;";
    private static final int CALLS = 300;

    private interface Call {
        int ask(GrainInn x);
    }

    public static void main(String[] args) {
        rowsAndBack();
        stateBehindALaterOne();
        lastOfAChainAlone();
        otherWishes();
        textsInThePlaceOfOthers();
        Check.finish();
    }

    private static GrainInn told() {
        GrainInn x = new GrainInn();
        Check.take(x, 0, LARGE);
        Check.take(x, 0, SMALL);
        Check.take(x, 1, LONG);
        Check.take(x, 1, SHORT);
        Check.take(x, 2, FIRST_WISHES);
        Check.take(x, 2, SECOND_WISHES);
        Check.take(x, 3, "silence;heard 1;heard 1;heard 0;");
        Check.take(x, 3, "silence;");
        return x;
    }

    private static void ofState(List<Call> calls, int inn, int evenings, int n) {
        for (int i = 0; i < 5; i++) {
            int k = i;
            calls.add(x -> x.state(inn, evenings, n, k));
            calls.add(x -> x.guest(inn, evenings, n, 0, k + 1));
            calls.add(x -> x.guest(inn, evenings, n, k, 0));
            calls.add(x -> x.guest(inn, evenings, n, 1, 10 + k));
            calls.add(x -> x.seats(inn, evenings, n, k % 2, k));
            calls.add(x -> x.met(inn, evenings, n, k, -1));
            calls.add(x -> x.met(inn, evenings, n, 0, k));
            calls.add(x -> x.ghosts(inn, evenings, n, k));
            calls.add(x -> x.spy(inn, evenings, n, 1 << k + 1, 10));
            calls.add(x -> x.weddings(inn, evenings, n, k == 0 ? 0 : 9 + k));
            calls.add(x -> x.comes(inn, evenings, n, k % 2, k, k % 3));
            calls.add(x -> x.whisper(inn, evenings, n, 2 * k + 1, k % 2 == 0));
            calls.add(x -> x.forgets(inn, evenings, n, k % 2, k / 2));
            calls.add(x -> x.cuts(inn, evenings, n, k % 2, k % 3));
            calls.add(x -> x.rest(inn, evenings, n, 0, 1, k - 1));
            calls.add(x -> x.gain(inn, evenings, n, 0, 1, k % 2, k / 2));
            calls.add(x -> x.past(inn, evenings, n, k % 2, k / 2, k % 3));
        }
    }

    private static List<Call> all() {
        List<Call> calls = new ArrayList<>();
        for (int i = 0; i < 2; i++) {
            int inn = i;
            for (int e = 0; e < 2; e++) {
                ofState(calls, inn, e, e == 0 ? 15 : 5);
                ofState(calls, inn, e, 3);
                ofState(calls, inn, e, 0);
            }
            for (int what = 0; what < 32; what++) {
                int w = what;
                calls.add(x -> x.drawn(inn, 5, 9 - 5 * inn, w));
            }
            for (int what : new int[] {0, 1, 10, 11, 12}) {
                calls.add(x -> x.fits(inn, 0, 0, what));
                calls.add(x -> x.fits(inn, 1, 1, what));
            }
            calls.add(x -> x.council(inn, false));
            calls.add(x -> x.council(inn, true));
        }
        return calls;
    }

    private static void rowsAndBack() {
        List<Call> calls = all();
        int[] alone = new int[calls.size()];
        for (int i = 0; i < alone.length; i++) {
            alone[i] = calls.get(i).ask(told());
        }
        for (int from = 0; from < alone.length; from += CALLS) {
            int to = Math.min(alone.length, from + CALLS);
            GrainInn forth = told();
            for (int i = from; i < to; i++) {
                Check.due("call " + i + " in a row", calls.get(i).ask(forth), alone[i]);
            }
            GrainInn back = told();
            for (int i = to - 1; i >= from; i--) {
                Check.due("call " + i + " back", calls.get(i).ask(back), alone[i]);
            }
        }
    }

    /** A state of fewer deeds has nothing of one of more deeds. */
    private static void stateBehindALaterOne() {
        GrainInn x = told();
        Check.due("later, heard", x.guest(0, 0, 15, 0, 0), 10);
        Check.due("earlier, heard", x.guest(0, 0, 1, 0, 0), 0);
        Check.due("later, met", x.met(0, 0, 15, 0, -1), 6);
        Check.due("earlier, met", x.met(0, 0, 0, 0, -1), 0);
        Check.due("later, pasts", x.state(0, 0, 15, 10), 4);
        Check.due("earlier, pasts", x.state(0, 0, 4, 10), 0);
        Check.due("later, paid", x.guest(0, 0, 15, 0, 1) > 0, true);
        Check.due("earlier, paid", x.guest(0, 0, 0, 0, 1), 0);
        Check.due("later, debt", x.guest(0, 0, 15, 0, 12), 3);
        Check.due("earlier, debt", x.guest(0, 0, 5, 0, 12), 0);
    }

    /** The chain's last one without its length being asked before. */
    private static void lastOfAChainAlone() {
        GrainInn x = Check.with("table 1 1 1;", "sit 0 0;night;sit 0 1;night;sit 0 2;night;");
        Check.due("last of 2", x.guest(0, 0, 6, 2, 5), 0);
        Check.due("last of 3", x.guest(0, 0, 6, 3, 5), 3);
        Check.due("length of 2", x.guest(0, 0, 6, 2, 4), 3);
        Check.due("last of 3 again", x.guest(0, 0, 6, 3, 5), 3);
        Check.due("length of 3", x.guest(0, 0, 6, 3, 4), 1);
    }

    /** Wishes asked for before wish nothing now. */
    private static void otherWishes() {
        GrainInn x = Check.with("table 4 1 0;table 4 1 0;guests 3;", "");
        Check.take(x, 2, "apart 0 1;apart 2 1;shun 0 0;");
        Check.take(x, 2, "beside 0 1;beside 1 2;");
        for (int i = 0; i < 2; i++) {
            Check.due("apart", x.seats(0, 0, 0, 0, 2), 2);
            Check.due("table of 1 apart", x.seats(0, 0, 0, 0, 11), 1);
            Check.due("beside", x.seats(0, 0, 0, 1, 2), 2);
            Check.due("table of 1 beside", x.seats(0, 0, 0, 1, 11), 0);
        }
        Check.take(x, 2, 1, "hear 0 0;");
        Check.due("in no way", x.seats(0, 0, 0, 1, 2), 0);
        Check.due("apart again", x.seats(0, 0, 0, 0, 2), 2);
        Check.take(x, 2, 1, "");
        Check.due("no wishes", x.seats(0, 0, 0, 1, 2), 8);
    }

    /** Of what stood in its place, or had a fault, nothing is left. */
    private static void textsInThePlaceOfOthers() {
        GrainInn x = new GrainInn();
        Check.take(x, 0, "table 8 6 9;table 8 6 9;guests 8;quarrel 0 1;love 0 1;quarrel 6 7;love 2 3;");
        Check.due("a second one", Check.take(x, 0, ""), 1);
        Check.due("in the place of the first", Check.take(x, 0, 0, "table 1 2 3;"), 0);
        for (int at = 0; at < 2; at++) {
            Check.due("tables of " + at, x.inn(at, 0), 1 - at);
            Check.due("guests of " + at, x.inn(at, 1), 4);
            for (int g = 0; g < 4; g++) {
                Check.due("quarrels of " + g, x.inn(at, 40 + g), 0);
                Check.due("loves of " + g, x.inn(at, 50 + g), 0);
            }
        }
        Check.due("a fault", Check.take(x, 0, 0, "guests 2;quarrel 0 1;love 0 1;table 9 9 9;love 0 7;"), -1);
        Check.due("behind a fault", Check.take(x, 0, 0, "table 1 1 1;"), 0);
        Check.due("its quarrels", x.inn(0, 40), 0);
        Check.due("its loves", x.inn(0, 50), 0);
        Check.due("its guests", x.inn(0, 1), 4);
        Check.due("no fault", x.fault(0), 0);
        Check.take(x, 1, "sit 0 0;night;night;");
        Check.due("a fault", Check.take(x, 1, 0, "night;night;night;#"), -1);
        Check.due("in the place of evenings", Check.take(x, 1, 0, "night;"), 0);
        Check.due("its deeds", x.deed(0, -1, 0), 1);
        Check.due("its first deed", x.deed(0, 0, 0), 2);
        Check.due("its first number", x.deed(0, 0, 1), -1);
        Check.due("no second deed", x.deed(0, 1, 0), -2);
    }
}
