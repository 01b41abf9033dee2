import java.util.Random;

/** Wild arguments in any state: no call throws, and a second object given the same calls answers the same. */
final class WildTest {
    private static final int OBJECTS = 1500;
    private static final int CALLS = 512;
    private static final int[] EDGES = {-2, -1, 0, 0, 0, 0, 1, 1, 2, 3, 4, 5, 6, 7, 8, 9, 10, 11, 12, 13, 14, 15, 17, 18, 20, 21,
        24, 25, 30, 31, 32, 33, 34, 35, 39, 40, 41, 47, 48, 50, 57, 58, 63, 64, 255, 1023, 1024, Integer.MAX_VALUE, Integer.MIN_VALUE};
    private static final String[] WORDS = {"table", "guests", "quarrel", "love", "sit", "say", "night", "scrub", "join", "split",
        "hear", "shun", "apart", "beside", "heard", "silence"};

    private final Random random;
    private final GrainInn one = new GrainInn();
    private final GrainInn two = new GrainInn();

    private WildTest(long seed) {
        random = new Random(seed);
    }

    public static void main(String[] args) {
        for (int seed = 0; seed < OBJECTS; seed++) {
            WildTest test = new WildTest(seed);
            int calls = 0;
            try {
                while (calls < CALLS) {
                    calls += test.step();
                }
            } catch (RuntimeException | StackOverflowError e) {
                System.out.println("object " + seed + ", about call " + calls + ": " + e);
                e.printStackTrace(System.out);
                Check.due("object " + seed + " throws", true, false);
            }
        }
        Check.finish();
    }

    private int wild() {
        return random.nextInt(12) == 0 ? random.nextInt() : EDGES[random.nextInt(EDGES.length)];
    }

    private int few(int n) {
        return random.nextInt(5) == 0 ? wild() : random.nextInt(n);
    }

    private void told(int call, long first, long second) {
        Check.due("call " + call + " of the second object", second, first);
    }

    private String line(int sort) {
        int[] from = {0, 4, 10, 14, 16};
        String word = WORDS[from[sort] + random.nextInt(from[sort + 1] - from[sort])];
        int numbers = switch (word) {
            case "table" -> 3;
            case "guests", "scrub", "heard" -> 1;
            case "night", "silence" -> 0;
            case "sit" -> 2 + random.nextInt(2);
            default -> 2;
        };
        StringBuilder line = new StringBuilder(word);
        for (int i = 0; i < numbers; i++) {
            line.append(' ').append(random.nextInt(60) == 0 ? random.nextInt(120) : 1 + random.nextInt(3));
        }
        return line.append(';').toString();
    }

    private int tellText() {
        int sort = random.nextInt(4);
        StringBuilder text = new StringBuilder();
        for (int lines = random.nextInt(sort == 1 ? 30 : 7); lines > 0; lines--) {
            text.append(line(sort));
        }
        Check.feed(one, text.toString());
        Check.feed(two, text.toString());
        int at = random.nextInt(3) == 0 ? wild() : -1;
        told(0, one.text(sort, at), two.text(sort, at));
        return 2 + text.length() / 20;
    }

    private int step() {
        int call = random.nextInt(32);
        int i = few(2);
        int e = few(2);
        int n = few(12);
        int g = few(4);
        int h = few(4);
        int what = wild();
        switch (call) {
            case 0, 1, 2, 3 -> {
                return tellText();
            }
            case 4 -> {
                int a = random.nextInt();
                told(call, one.feed(a, ~a, what, n, a * 31), two.feed(a, ~a, what, n, a * 31));
            }
            case 5 -> told(call, one.end(what), two.end(what));
            case 6 -> told(call, one.text(i, what), two.text(i, what));
            case 7 -> told(call, one.fault(i), two.fault(i));
            case 8 -> told(call, one.inn(i, what), two.inn(i, what));
            case 9 -> told(call, one.deed(e, n, h), two.deed(e, n, h));
            case 10 -> told(call, one.stop(i, e), two.stop(i, e));
            case 11 -> told(call, one.state(i, e, n, what), two.state(i, e, n, what));
            case 12 -> told(call, one.guest(i, e, n, g, what), two.guest(i, e, n, g, what));
            case 13 -> told(call, one.past(i, e, n, g, h, what), two.past(i, e, n, g, h, what));
            case 14 -> told(call, one.wish(e, n, what), two.wish(e, n, what));
            case 15 -> told(call, one.seats(i, e, n, h, what), two.seats(i, e, n, h, what));
            case 16 -> told(call, one.comes(i, e, n, g, what, h), two.comes(i, e, n, g, what, h));
            case 17 -> told(call, one.cuts(i, e, n, g, h), two.cuts(i, e, n, g, h));
            case 18 -> told(call, one.heard(e, n), two.heard(e, n));
            case 19 -> told(call, one.fits(i, e, g, what), two.fits(i, e, g, what));
            case 20 -> told(call, one.gain(i, e, n, g, h, i, what), two.gain(i, e, n, g, h, i, what));
            case 21 -> told(call, one.rest(i, e, n, g, h, what), two.rest(i, e, n, g, h, what));
            case 22 -> told(call, one.whisper(i, e, n, what, g == 1), two.whisper(i, e, n, what, g == 1));
            case 23 -> told(call, one.council(i, g == 1), two.council(i, g == 1));
            case 24 -> told(call, one.drawn(i, g, n, what), two.drawn(i, g, n, what));
            case 25 -> told(call, one.met(i, e, n, g, h), two.met(i, e, n, g, h));
            case 26 -> told(call, one.ghosts(i, e, n, h), two.ghosts(i, e, n, h));
            case 27 -> told(call, one.forgets(i, e, n, g, h), two.forgets(i, e, n, g, h));
            case 28 -> told(call, one.spy(i, e, n, what, h), two.spy(i, e, n, what, h));
            case 29 -> told(call, one.weddings(i, e, n, what), two.weddings(i, e, n, what));
            case 30 -> told(call, one.count(what) * 2 + (one.image(h) ? 1 : 0), two.count(what) * 2 + (two.image(h) ? 1 : 0));
            default -> told(call, one.again(h) ? 1 : 0, two.again(h) ? 1 : 0);
        }
        return 1;
    }
}
