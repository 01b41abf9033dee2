import java.util.ArrayList;
import java.util.List;
import java.util.Random;

/** Random inns, evenings, wishes and hearings: every call against the plain model, with seeds that are always the same. */
final class ModelTest {
    private static final int ROUNDS = 900;

    private final Random random;
    /** Every third inn has many seats, high prices, and guests who mostly love or quarrel. */
    private final boolean wide;
    private GrainInn x;
    private int calls;
    private Model.Inn inn;
    private Model.Text deeds;

    private ModelTest(long seed) {
        random = new Random(seed);
        wide = seed % 3 == 0;
    }

    public static void main(String[] args) {
        for (int round = 0; round < ROUNDS; round++) {
            int before = Check.wrongSoFar();
            new ModelTest(round).round();
            if (Check.wrongSoFar() != before) {
                System.out.println("that was round " + round);
            }
        }
        for (int round = 0; round < 20000; round++) {
            new ModelTest(-round).text();
        }
        Check.finish();
    }

    private int below(int n) {
        return random.nextInt(n);
    }

    // ---- texts that may have faults ----------------------------------------------------------

    private void text() {
        int sort = below(4);
        StringBuilder text = new StringBuilder();
        String[][] words = {{"table", "guests", "quarrel", "love"}, {"sit", "say", "night", "scrub", "join", "split"},
            {"hear", "shun", "apart", "beside"}, {"heard", "silence"}};
        int lines = below(3) == 0 ? below(45) : below(12);
        for (int i = 0; i < lines && text.length() < 560; i++) {
            String word = words[sort][below(words[sort].length)];
            int numbers = switch (word) {
                case "table" -> 3;
                case "guests", "scrub", "heard" -> 1;
                case "night", "silence" -> 0;
                case "sit" -> 2 + below(3);
                default -> 2;
            };
            text.append(word);
            for (int k = 0; k < numbers; k++) {
                text.append(below(20) == 0 ? "\n" : " ").append(below(30) == 0 ? below(12) : 1 + below(4));
            }
            text.append(below(9) == 0 ? " ;" : ";");
        }
        for (int spoils = below(3) == 0 ? 1 : 0; spoils > 0 && text.length() > 0; spoils--) {
            int at = below(text.length());
            String signs = "0123456789; \nabtz#A\u00e9";
            switch (below(3)) {
                case 0 -> text.deleteCharAt(at);
                case 1 -> text.insert(at, signs.charAt(below(signs.length())));
                default -> text.setCharAt(at, signs.charAt(below(signs.length())));
            }
        }
        Model.Text want = Model.read(sort, text.toString());
        GrainInn y = new GrainInn();
        Check.due("text " + sort + " of " + text, Check.take(y, sort, text.toString()), want.fault == 0 ? 0 : -1);
        Check.due("fault of " + text, y.fault(0), want.fault);
        Check.due("place of " + text, y.fault(1), want.place);
        if (want.fault == 0 && (sort == 1 || sort == 2)) {
            Check.due("lines of " + text, sort == 1 ? y.deed(0, -1, 0) : y.wish(0, -1, 0), want.lines.size());
        }
    }

    // ---- states ------------------------------------------------------------------------------

    private String innText() {
        StringBuilder text = new StringBuilder();
        int tables = below(12) == 0 ? 0 : 1 + below(5);
        for (int t = 0; t < tables; t++) {
            text.append("table ").append(1 + below(wide ? 8 : 4)).append(' ').append(1 + below(6)).append(' ')
                .append(below(wide ? 10 : 5)).append(';');
        }
        int guests = 1 + below(8);
        text.append("guests ").append(guests).append(';');
        int couples = guests < 2 ? 0 : below(wide ? 22 : 9);
        for (int i = 0; i < couples; i++) {
            int a = below(guests);
            int b = (a + 1 + below(guests - 1)) % guests;
            text.append(below(2) == 0 ? "quarrel " : "love ").append(a).append(' ').append(b).append(';');
        }
        return text.toString();
    }

    /** Mostly deeds that can be: each is tried, and a few that can't be are kept all the same. */
    private String deedsText(Model.Inn of) {
        StringBuilder text = new StringBuilder();
        int many = below(41);
        int tables = Math.max(1, of.tables.size());
        int kept = 0;
        for (int tries = 0; tries < 400 && kept < many; tries++) {
            StringBuilder line = new StringBuilder();
            switch (below(12)) {
                case 0, 1, 2, 3 -> {
                    line.append("sit ").append(below(tables));
                    List<Integer> who = new ArrayList<>();
                    for (int i = 1 + below(wide ? 7 : 3); i > 0; i--) {
                        int g = below(of.guests);
                        if (!who.contains(g)) {
                            who.add(g);
                            line.append(' ').append(g);
                        }
                    }
                }
                case 4, 5, 6 -> line.append("say ").append(below(of.guests)).append(' ').append(below(10));
                case 7, 8, 9 -> line.append("night");
                case 10 -> line.append("scrub ").append(below(tables));
                default -> {
                    int a = below(5);
                    line.append(below(2) == 0 ? "join " : "split ").append(a).append(' ').append((a + 1 + below(4)) % 5);
                }
            }
            line.append(';');
            if (text.length() + line.length() > 600) {
                break;
            }
            List<Model.Line> row = Model.read(1, text + line.toString()).lines;
            if (Model.stop(of, row) == row.size() || below(300) == 0) {
                text.append(line);
                kept++;
            }
        }
        return text.toString();
    }

    private String wishesText(int guests) {
        StringBuilder text = new StringBuilder();
        for (int i = below(5); i > 0; i--) {
            int g = below(40) == 0 ? below(8) : below(guests);
            switch (below(4)) {
                case 0 -> text.append("hear ").append(g).append(' ').append(below(10));
                case 1 -> text.append("shun ").append(g).append(' ').append(below(10));
                default -> {
                    int h = (g + 1 + below(Math.max(1, guests - 1))) % Math.max(2, guests);
                    if (h == g) {
                        h = (g + 1) % 8;
                    }
                    text.append(below(2) == 0 ? "apart " : "beside ").append(g).append(' ').append(h);
                }
            }
            text.append(';');
        }
        return text.toString();
    }

    private String hearingText(Model.Inn of) {
        StringBuilder text = new StringBuilder();
        int rows = below(of.guests > 5 ? 6 : 8);
        boolean honest = below(3) > 0 && !of.tables.isEmpty();
        Model.Table table = honest ? new Model.Table(of.tables.get(below(of.tables.size()))) : null;
        for (int i = 0; i < rows; i++) {
            if (honest) {
                Model.Past past = table.repeated();
                text.append(past == null ? "silence;" : "heard " + past.guests.iterator().next() + ";");
                table.goOn();
                table.now = new Model.Past();
                table.now.guests.add(below(of.guests));
                table.night(i);
            } else {
                text.append(i == 0 || below(9) == 0 ? "silence;" : "heard " + below(of.guests + (of.guests < 8 ? 1 : 0)) + ";");
            }
        }
        return text.toString();
    }

    private String innTold;
    private String deedsTold;
    private String wishesTold;
    private String hearingTold;

    /** A new object when the old one has been asked 480 times. */
    private GrainInn asked() {
        if (x == null || calls >= 400) {
            x = new GrainInn();
            Check.due("inn " + innTold, Check.take(x, 0, innTold), 0);
            Check.due("deeds " + deedsTold, Check.take(x, 1, deedsTold), 0);
            Check.due("wishes " + wishesTold, Check.take(x, 2, wishesTold), 0);
            Check.due("hearing " + hearingTold, Check.take(x, 3, hearingTold), 0);
            calls = 110;
        }
        calls++;
        return x;
    }

    private void round() {
        innTold = innText();
        inn = new Model.Inn(Model.read(0, innTold));
        deedsTold = deedsText(inn);
        deeds = Model.read(1, deedsTold);
        wishesTold = wishesText(inn.guests);
        hearingTold = hearingText(inn);
        if (below(10) == 0) {
            innTold = innTold + "guests 8;";
            inn = new Model.Inn(Model.read(0, innTold));
            if (hearingTold.length() > 48) {
                hearingTold = "silence;heard 0;";
            }
        }
        askOfTexts();
        int stop = Model.stop(inn, deeds.lines);
        Check.due("stop " + innTold + " " + deedsTold, asked().stop(0, 0), stop);
        Check.due("state behind the stop", asked().state(0, 0, stop + 1, 0), -2);
        askOfState(stop);
        askOfState(below(stop + 1));
        askOfState(below(stop + 1));
        askOfDrawn();
    }

    private void askOfTexts() {
        Check.due("inn 0", asked().inn(0, 0), inn.tables.size());
        Check.due("inn 1", asked().inn(0, 1), inn.guests);
        for (int t = 0; t < 6; t++) {
            for (int i = 0; i < 3; i++) {
                Check.due("inn " + (10 + 10 * i + t), asked().inn(0, 10 + 10 * i + t),
                    t < inn.tables.size() ? inn.tables.get(t)[i] : -1);
            }
        }
        for (int g = 0; g < 9; g++) {
            int quarrels = 0;
            int loves = 0;
            for (int h = 0; h < 8 && g < 8; h++) {
                quarrels |= inn.quarrel[g][h] ? 1 << h : 0;
                loves |= inn.love[g][h] ? 1 << h : 0;
            }
            Check.due("inn quarrels", asked().inn(0, 40 + g), g < inn.guests ? quarrels : -1);
            Check.due("inn loves", asked().inn(0, 50 + g), g < inn.guests ? loves : -1);
        }
        Check.due("council", asked().council(0, false), Model.council(inn));
        Check.due("split", asked().council(0, true), Model.split(inn));
        List<Model.Line> rows = Model.read(3, hearingTold).lines;
        for (int t = 0; t < inn.tables.size() && t < 2; t++) {
            int[] want = Model.fits(inn, t, rows);
            Check.due("fits " + hearingTold + " " + innTold, asked().fits(0, 0, t, 0), want[0]);
            Check.due("tells " + hearingTold + " " + innTold, asked().fits(0, 0, t, 1), want[1]);
            for (int i = 0; i < 8; i++) {
                Check.due("sure " + i + " " + hearingTold, asked().fits(0, 0, t, 10 + i), 2 + i < want.length ? want[2 + i] : -1);
            }
        }
    }

    private String at(int n, String what) {
        return innTold + " | " + deedsTold + " | " + n + " " + what;
    }

    private void askOfState(int n) {
        Model.State s = Model.behind(inn, deeds.lines, n);
        int sitting = 0;
        int paid = 0;
        for (int g = 0; g < 8; g++) {
            sitting |= s.seatOf(g) >= 0 ? 1 << g : 0;
            paid += s.paid[g];
        }
        Check.due(at(n, "nights"), asked().state(0, 0, n, 0), s.nights);
        Check.due(at(n, "strife"), asked().state(0, 0, n, 1), s.strife);
        Check.due(at(n, "joy"), asked().state(0, 0, n, 2), s.joy);
        Check.due(at(n, "paid"), asked().state(0, 0, n, 3), paid);
        Check.due(at(n, "seated"), asked().state(0, 0, n, 4), sitting);
        for (int t = 0; t < s.tables.size(); t++) {
            askOfTable(s, n, t);
        }
        Check.due(at(n, "no table"), asked().state(0, 0, n, 10 + s.tables.size()), -2);
        for (int g = 0; g < inn.guests; g++) {
            askOfGuest(s, n, g);
        }
        Check.due(at(n, "no guest"), asked().guest(0, 0, n, inn.guests, 0), -1000000);
        askOfAll(s, n);
    }

    private void askOfTable(Model.State s, int n, int t) {
        Model.Table table = s.tables.get(t);
        Check.due(at(n, "pasts"), asked().state(0, 0, n, 10 + t), table.pasts.size());
        Check.due(at(n, "turn"), asked().state(0, 0, n, 20 + t), table.turn);
        Check.due(at(n, "sitters"), asked().state(0, 0, n, 30 + t), table.now == null ? 0 : Model.bits(table.now.guests));
        for (int k = 0; k < table.pasts.size(); k++) {
            Model.Past past = table.pasts.get(k);
            Check.due(at(n, "past guests"), asked().past(0, 0, n, t, k, 0), Model.bits(past.guests));
            Check.due(at(n, "past words"), asked().past(0, 0, n, t, k, 1), Model.bits(past.words));
            Check.due(at(n, "past night"), asked().past(0, 0, n, t, k, 2), past.night);
        }
        Check.due(at(n, "no past"), asked().past(0, 0, n, t, table.pasts.size(), 0), -1);
        for (int word = 0; word < 10; word++) {
            int[] want = Model.comes(s, t, word);
            for (int what = 0; what < 3; what++) {
                Check.due(at(n, "comes " + t + " " + word + " " + what), asked().comes(0, 0, n, t, word, what), want[what]);
            }
        }
        int least = Model.least(inn, table);
        Check.due(at(n, "cuts " + t), asked().cuts(0, 0, n, t, 0), Model.cuts(inn, table));
        Check.due(at(n, "least " + t), asked().cuts(0, 0, n, t, 1), Integer.bitCount(least));
        Check.due(at(n, "which " + t), asked().cuts(0, 0, n, t, 2), least);
        for (int g = 0; g < inn.guests; g++) {
            Check.due(at(n, "forgets " + t + " " + g), asked().forgets(0, 0, n, t, g), Model.forgets(s, t, g));
        }
    }

    private void askOfGuest(Model.State s, int n, int g) {
        int met = 0;
        int net = 0;
        for (int h = 0; h < inn.guests; h++) {
            met |= s.met[g][h] ? 1 << h : 0;
            net += s.debts[h][g] - s.debts[g][h];
            Check.due(at(n, "debt"), asked().guest(0, 0, n, g, 10 + h), s.debts[g][h]);
            Check.due(at(n, "gossip"), asked().met(0, 0, n, g, h), Model.gossip(s, g, h));
        }
        Check.due(at(n, "met"), asked().met(0, 0, n, g, -1), met);
        Check.due(at(n, "heard"), asked().guest(0, 0, n, g, 0), Model.bits(s.heard.get(g)));
        Check.due(at(n, "paid by"), asked().guest(0, 0, n, g, 1), s.paid[g]);
        Check.due(at(n, "seat of"), asked().guest(0, 0, n, g, 2), s.seatOf(g));
        Check.due(at(n, "net"), asked().guest(0, 0, n, g, 3), net);
        Check.due(at(n, "chain"), asked().guest(0, 0, n, g, 4), Model.chain(s, g)[0]);
        Check.due(at(n, "chain's end"), asked().guest(0, 0, n, g, 5), Model.chain(s, g)[1]);
    }

    private void askOfAll(Model.State s, int n) {
        int[] ghosts = Model.ghosts(s);
        for (int what = 0; what < 4; what++) {
            Check.due(at(n, "ghosts " + what), asked().ghosts(0, 0, n, what), ghosts[what]);
        }
        askSeats(s, n);
        for (int word = 0; word < 10; word++) {
            int fewest = -1;
            int where = -1;
            for (int t = s.tables.size() - 1; t >= 0; t--) {
                int first = Model.comes(s, t, word)[0];
                if (first > 0 && (fewest < 0 || first <= fewest)) {
                    fewest = first;
                    where = t;
                }
            }
            Check.due(at(n, "whisper " + word), asked().whisper(0, 0, n, word, false), fewest);
            Check.due(at(n, "whisper at " + word), asked().whisper(0, 0, n, word, true), where);
        }
        for (int i = 0; i < 3; i++) {
            askSpy(s, n, i == 0 ? 1 << below(10) : 1 << below(10) | 1 << below(10) | (i == 2 ? 1 << below(10) : 0));
        }
        askSpy(s, n, 0);
        if (inn.guests > 1) {
            int one = below(inn.guests);
            askGame(s, n, one, (one + 1 + below(inn.guests - 1)) % inn.guests);
        }
        List<Integer> couples = Model.weddings(s);
        Check.due(at(n, "weddings"), asked().weddings(0, 0, n, 0), Model.wed(couples));
        for (int t = 0; t < couples.size(); t++) {
            Check.due(at(n, "wedding at " + t), asked().weddings(0, 0, n, 10 + t), couples.get(t) == 99 ? -1 : couples.get(t));
        }
        Check.due(at(n, "wedding at none"), asked().weddings(0, 0, n, 10 + couples.size()), -2);
    }

    private void askSeats(Model.State s, int n) {
        boolean may = s.empty() && inn.guests <= 6;
        Model.Seats seats = may ? Model.seats(s, Model.read(2, wishesTold).lines) : new Model.Seats();
        Check.due(at(n, "harm " + wishesTold), asked().seats(0, 0, n, 0, 0), seats.harm);
        Check.due(at(n, "its paid " + wishesTold), asked().seats(0, 0, n, 0, 1), seats.paid);
        Check.due(at(n, "ways " + wishesTold), asked().seats(0, 0, n, 0, 2), may ? seats.ways : -1);
        for (int g = 0; g < 8; g++) {
            Check.due(at(n, "table of " + g + " " + wishesTold), asked().seats(0, 0, n, 0, 10 + g),
                seats.row != null && g < seats.row.length ? seats.row[g] : -1);
        }
    }

    private void askSpy(Model.State s, int n, int words) {
        List<Integer> row = s.empty() ? Model.spy(s, words) : null;
        Check.due(at(n, "spy " + words), asked().spy(0, 0, n, words, 0), row == null ? -1 : row.size());
        for (int i = 0; i < 5; i++) {
            Check.due(at(n, "spy " + words + " night " + i), asked().spy(0, 0, n, words, 10 + i),
                row != null && i < row.size() ? row.get(i) : -1);
        }
    }

    private void askGame(Model.State s, int n, int one, int two) {
        for (int a = 0; a < s.tables.size(); a++) {
            for (int b = 0; b < s.tables.size(); b++) {
                Check.due(at(n, "gain"), asked().gain(0, 0, n, one, two, a, b), Model.gain(s, one, two, a, b));
            }
        }
        List<Integer> rests = Model.rests(s, one, two);
        Check.due(at(n, "rests"), asked().rest(0, 0, n, one, two, -1), rests.size());
        for (int k = 0; k <= rests.size(); k++) {
            Check.due(at(n, "rest " + k), asked().rest(0, 0, n, one, two, k), k < rests.size() ? rests.get(k) : -1);
        }
    }

    private void askOfDrawn() {
        int seed = random.nextInt();
        int nights = 1 + below(40);
        if (inn.tables.isEmpty()) {
            Check.due("drawn without tables", asked().drawn(0, seed, nights, 0), -2);
            return;
        }
        Model.State s = Model.drawn(inn, seed, nights);
        int paid = 0;
        for (int g = 0; g < inn.guests; g++) {
            paid += s.paid[g];
            Check.due("drawn heard", asked().drawn(0, seed, nights, 10 + g), Model.bits(s.heard.get(g)));
        }
        Check.due("drawn strife", asked().drawn(0, seed, nights, 0), s.strife);
        Check.due("drawn joy", asked().drawn(0, seed, nights, 1), s.joy);
        Check.due("drawn paid", asked().drawn(0, seed, nights, 2), paid);
        Check.due("drawn unseated", asked().drawn(0, seed, nights, 3), s.unseated);
        for (int t = 0; t < s.tables.size(); t++) {
            Model.Table table = s.tables.get(t);
            Check.due("drawn last", asked().drawn(0, seed, nights, 20 + t),
                table.pasts.isEmpty() ? 0 : Model.bits(table.pasts.get(table.pasts.size() - 1).guests));
            Check.due("drawn turn", asked().drawn(0, seed, nights, 30 + t), table.turn);
        }
        Check.due("drawn no table", asked().drawn(0, seed, nights, 20 + s.tables.size()), -2);
        Check.due("drawn no guest", asked().drawn(0, seed, nights, 10 + inn.guests), -2);
    }
}
