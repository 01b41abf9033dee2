/** What all tests use: texts put on the tape, answers compared, and the end of a test. */
final class Check {
    static final int NONE = -1;
    static final int INN = 0;
    static final int EVENINGS = 1;
    static final int WISHES = 2;
    static final int HEARING = 3;

    private static int wrong = 0;
    private static int looked = 0;

    private Check() {
    }

    static void due(String call, long got, long want) {
        looked++;
        if (got != want) {
            wrong++;
            if (wrong <= 50) {
                System.out.println(call + " answered " + got + ", due is " + want);
            }
        }
    }

    static void due(String call, boolean got, boolean want) {
        due(call, got ? 1 : 0, want ? 1 : 0);
    }

    static int wrongSoFar() {
        return wrong;
    }

    /** Onto an empty tape. */
    static void feed(GrainInn x, String text) {
        for (int from = 0; from < text.length(); from += 20) {
            int[] n = new int[5];
            for (int i = 0; i < 20; i++) {
                int sign = from + i < text.length() ? text.charAt(from + i) : ' ';
                n[i / 4] = n[i / 4] << 8 | sign & 255;
            }
            x.feed(n[0], n[1], n[2], n[3], n[4]);
        }
        x.end(text.length());
    }

    static int take(GrainInn x, int sort, String text) {
        return take(x, sort, NONE, text);
    }

    static int take(GrainInn x, int sort, int at, String text) {
        x.end(0);
        feed(x, text);
        return x.text(sort, at);
    }

    static GrainInn with(String inn, String evenings) {
        GrainInn x = new GrainInn();
        due("text of " + inn, take(x, INN, inn), 0);
        due("text of " + evenings, take(x, EVENINGS, evenings), 0);
        return x;
    }

    static void fault(String text, int sort, int fault, int place) {
        GrainInn x = new GrainInn();
        due("text(" + sort + ") of " + text, take(x, sort, text), fault == 0 ? 0 : NONE);
        due("fault(0) of " + text, x.fault(0), fault);
        due("fault(1) of " + text, x.fault(1), place);
        due("count(" + sort + ") behind " + text, x.count(sort), fault == 0 ? 1 : 0);
    }

    /** The guests of a table's pasts, the oldest first, and its turn; there are no more of them. */
    static void row(GrainInn x, int n, int table, int turn, int... guests) {
        due("pasts of " + table + " at " + n, x.state(0, 0, n, 10 + table), guests.length);
        due("turn of " + table + " at " + n, x.state(0, 0, n, 20 + table), turn);
        for (int k = 0; k < guests.length; k++) {
            due("past " + k + " of " + table + " at " + n, x.past(0, 0, n, table, k, 0), guests[k]);
        }
        due("no more pasts of " + table + " at " + n, x.past(0, 0, n, table, guests.length, 0), NONE);
    }

    /** The deed at which it stops can't be: there is a state before it and none behind it. */
    static void stops(String inn, String evenings, int want) {
        GrainInn x = with(inn, evenings);
        due("stop of " + evenings, x.stop(0, 0), want);
        due("state at the stop of " + evenings, x.state(0, 0, want, 1) >= 0, true);
        due("state behind the stop of " + evenings, x.state(0, 0, want + 1, 1), -2);
    }

    static void finish() {
        System.out.println(looked + " answers, " + wrong + " not as due");
        if (wrong != 0 || looked == 0) {
            System.exit(1);
        }
    }
}
