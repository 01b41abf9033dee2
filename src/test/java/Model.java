import java.util.ArrayList;
import java.util.HashMap;
import java.util.List;
import java.util.Map;
import java.util.Set;
import java.util.TreeSet;

/** The document told a second time, as slowly and plainly as it goes: what ModelTest compares with. */
final class Model {
    private Model() {
    }

    static final class Line {
        final String word;
        final List<Integer> numbers = new ArrayList<>();

        Line(String word) {
            this.word = word;
        }
    }

    static final class Text {
        int fault = 0;
        int place = -1;
        final List<Line> lines = new ArrayList<>();
    }

    static final class Inn {
        final List<int[]> tables = new ArrayList<>();
        int guests = 4;
        final boolean[][] quarrel = new boolean[8][8];
        final boolean[][] love = new boolean[8][8];

        Inn(Text text) {
            for (Line line : text.lines) {
                List<Integer> n = line.numbers;
                switch (line.word) {
                    case "table" -> tables.add(new int[] {n.get(0), n.get(1), n.get(2)});
                    case "guests" -> guests = n.get(0);
                    case "quarrel" -> mark(quarrel, n);
                    default -> mark(love, n);
                }
            }
        }

        private static void mark(boolean[][] couples, List<Integer> n) {
            couples[n.get(0)][n.get(1)] = true;
            couples[n.get(1)][n.get(0)] = true;
        }

        boolean anyQuarrel(Set<Integer> all) {
            for (int a : all) {
                for (int b : all) {
                    if (quarrel[a][b]) {
                        return true;
                    }
                }
            }
            return false;
        }
    }

    // ---- texts -------------------------------------------------------------------------------

    private static final class Token {
        final String sign;
        final int place;

        Token(String sign, int place) {
            this.sign = sign;
            this.place = place;
        }

        boolean isNumber() {
            return sign.matches("[0-9]{1,2}");
        }
    }

    private static List<Token> tokens(String text) {
        List<Token> all = new ArrayList<>();
        int at = 0;
        while (at < text.length()) {
            char c = text.charAt(at);
            if (c == ' ' || c == '\n') {
                at++;
                continue;
            }
            int to = at + 1;
            String kind = c >= 'a' && c <= 'z' ? "[a-z]" : c >= '0' && c <= '9' ? "[0-9]" : null;
            while (kind != null && to < text.length() && text.substring(to, to + 1).matches(kind)) {
                to++;
            }
            all.add(new Token(text.substring(at, to), at));
            at = to;
        }
        all.add(new Token("", text.length()));
        return all;
    }

    /** Of a word, by sort: letters for what its numbers are (t table, g guest, w word, S K P N as the inn's). */
    private static String shape(int sort, String word) {
        Map<String, String> shapes = new HashMap<>();
        switch (sort) {
            case 0 -> {
                shapes.put("table", "SKP");
                shapes.put("guests", "N");
                shapes.put("quarrel", "gG");
                shapes.put("love", "gG");
            }
            case 1 -> {
                shapes.put("sit", "tg*");
                shapes.put("say", "gw");
                shapes.put("night", "");
                shapes.put("scrub", "t");
                shapes.put("join", "tT");
                shapes.put("split", "tT");
            }
            case 2 -> {
                shapes.put("hear", "gw");
                shapes.put("shun", "gw");
                shapes.put("apart", "gG");
                shapes.put("beside", "gG");
            }
            default -> {
                shapes.put("heard", "g");
                shapes.put("silence", "");
            }
        }
        return shapes.get(word);
    }

    private static boolean canBe(char kind, int value) {
        return switch (kind) {
            case 'S', 'N' -> value >= 1 && value <= 8;
            case 'K' -> value >= 1 && value <= 6;
            case 'P', 'w' -> value <= 9;
            case 't', 'T' -> value <= 4;
            default -> value <= 7;
        };
    }

    static Text read(int sort, String text) {
        Text told = new Text();
        List<Token> row = tokens(text);
        int formFault = -1;
        List<int[]> others = new ArrayList<>();
        int most = sort == 0 ? 5 : sort == 1 ? 40 : sort == 2 ? 10 : 7;
        int many = 0;
        int at = 0;
        while (formFault < 0 && !row.get(at).sign.isEmpty()) {
            Token head = row.get(at);
            String shape = shape(sort, head.sign);
            if (shape == null) {
                formFault = head.place;
                break;
            }
            if ((sort != 0 || head.sign.equals("table")) && ++many > most) {
                others.add(new int[] {head.place, 3});
            }
            Line line = new Line(head.sign);
            at++;
            int next = 0;
            while (true) {
                Token token = row.get(at);
                boolean more = next < shape.length() && (shape.charAt(next) != '*' || token.isNumber());
                if (!more) {
                    if (token.sign.equals(";")) {
                        at++;
                    } else {
                        formFault = token.place;
                    }
                    break;
                }
                if (!token.isNumber()) {
                    formFault = token.place;
                    break;
                }
                int value = Integer.parseInt(token.sign);
                char kind = shape.charAt(next) == '*' ? 'g' : shape.charAt(next);
                boolean again = Character.isUpperCase(kind) && "GT".indexOf(kind) >= 0 && line.numbers.get(0) == value;
                boolean told2 = head.sign.equals("sit") && next > 0
                        && line.numbers.subList(1, line.numbers.size()).contains(value);
                if (!canBe(kind, value) || again || told2) {
                    others.add(new int[] {token.place, 2});
                }
                line.numbers.add(value);
                at++;
                if (shape.charAt(next) != '*') {
                    next++;
                }
            }
            told.lines.add(line);
        }
        if (formFault >= 0) {
            told.fault = 1;
            told.place = formFault;
        } else if (!others.isEmpty()) {
            others.sort((a, b) -> a[0] != b[0] ? a[0] - b[0] : a[1] - b[1]);
            told.fault = others.get(0)[1];
            told.place = others.get(0)[0];
        } else if (sort == 0) {
            int guests = 4;
            int highest = -1;
            for (Line line : told.lines) {
                if (line.word.equals("guests")) {
                    guests = line.numbers.get(0);
                } else if (!line.word.equals("table")) {
                    highest = Math.max(highest, Math.max(line.numbers.get(0), line.numbers.get(1)));
                }
            }
            if (highest >= guests) {
                told.fault = 4;
                told.place = text.length();
            }
        }
        return told;
    }

    // ---- states ------------------------------------------------------------------------------

    static final class Past {
        final Set<Integer> guests = new TreeSet<>();
        final Set<Integer> words = new TreeSet<>();
        int night;
    }

    static final class Table {
        final List<Past> pasts = new ArrayList<>();
        int turn = 0;
        Past now = null;
        final int seats;
        final int keeps;
        final int price;

        Table(int[] row) {
            seats = row[0];
            keeps = row[1];
            price = row[2];
        }

        Table copy() {
            Table other = new Table(new int[] {seats, keeps, price});
            other.pasts.addAll(pasts);
            other.turn = turn;
            other.now = now;
            return other;
        }

        Past repeated() {
            return pasts.isEmpty() ? null : pasts.get(turn);
        }

        void goOn() {
            if (!pasts.isEmpty()) {
                turn++;
                if (turn == pasts.size()) {
                    turn = 0;
                }
            }
        }

        void forget() {
            while (pasts.size() > keeps) {
                pasts.remove(0);
                if (turn > 0) {
                    turn--;
                }
            }
        }

        void night(int number) {
            if (now != null) {
                now.night = number;
                pasts.add(now);
                forget();
                now = null;
            }
        }

        /** Somebody who is no guest sits and says nothing; the past that is repeated, and then night. */
        Past quiet() {
            Past heard = repeated();
            goOn();
            now = new Past();
            night(0);
            return heard;
        }
    }

    static final class State {
        final Inn inn;
        final List<Table> tables = new ArrayList<>();
        int nights = 0;
        int strife = 0;
        int joy = 0;
        int unseated = 0;
        final int[] paid = new int[8];
        final int[][] debts = new int[8][8];
        final List<Set<Integer>> heard = new ArrayList<>();
        final boolean[][] met = new boolean[8][8];

        State(Inn inn) {
            this.inn = inn;
            for (int[] row : inn.tables) {
                tables.add(new Table(row));
            }
            for (int g = 0; g < 8; g++) {
                heard.add(new TreeSet<>());
            }
        }

        int seatOf(int guest) {
            for (int t = 0; t < tables.size(); t++) {
                if (tables.get(t).now != null && tables.get(t).now.guests.contains(guest)) {
                    return t;
                }
            }
            return -1;
        }

        boolean empty() {
            for (Table table : tables) {
                if (table.now != null) {
                    return false;
                }
            }
            return true;
        }

        boolean go(Line line) {
            List<Integer> n = line.numbers;
            boolean hasTable = n.size() > 0 && n.get(0) < tables.size();
            switch (line.word) {
                case "sit":
                    return hasTable && sit(tables.get(n.get(0)), n.subList(1, n.size()));
                case "say":
                    if (n.get(0) >= inn.guests || seatOf(n.get(0)) < 0) {
                        return false;
                    }
                    say(n.get(0), n.get(1));
                    return true;
                case "night":
                    night();
                    return true;
                case "scrub":
                    return hasTable && scrub(tables.get(n.get(0)));
                case "join":
                    return hasTable && n.get(1) < tables.size() && join(tables.get(n.get(0)), tables.get(n.get(1)));
                default:
                    return hasTable && n.get(1) < tables.size() && split(tables.get(n.get(0)), tables.get(n.get(1)));
            }
        }

        boolean sit(Table table, List<Integer> who) {
            if (table.now != null || who.size() > table.seats) {
                return false;
            }
            for (int g : who) {
                if (g >= inn.guests || seatOf(g) >= 0) {
                    return false;
                }
            }
            Past past = table.repeated();
            int least = 8;
            for (int g : who) {
                paid[g] += table.price;
                least = Math.min(least, g);
                for (int h : who) {
                    met[g][h] |= g != h;
                }
            }
            if (past != null) {
                for (int p : past.guests) {
                    paid[least] += table.price;
                    if (p != least) {
                        debts[least][p] += table.price;
                    }
                    for (int g : who) {
                        strife += inn.quarrel[g][p] ? 1 : 0;
                        joy += inn.love[g][p] ? 1 : 0;
                        if (g != p) {
                            met[g][p] = true;
                            met[p][g] = true;
                        }
                    }
                }
                for (int g : who) {
                    heard.get(g).addAll(past.words);
                }
            }
            table.goOn();
            table.now = new Past();
            table.now.guests.addAll(who);
            return true;
        }

        void say(int guest, int word) {
            Past now = tables.get(seatOf(guest)).now;
            now.words.add(word);
            for (int g : now.guests) {
                heard.get(g).add(word);
            }
        }

        void night() {
            for (Table table : tables) {
                table.night(nights);
            }
            nights++;
        }

        boolean scrub(Table table) {
            int size = table.pasts.size();
            if (table.now != null || size < 2) {
                return false;
            }
            Past pointed = table.pasts.get(table.turn);
            Past gone = table.pasts.remove(size - 2);
            if (pointed != gone) {
                table.turn = table.pasts.indexOf(pointed);
            }
            return true;
        }

        boolean join(Table one, Table two) {
            if (one.now != null || two.now != null) {
                return false;
            }
            one.pasts.addAll(two.pasts);
            one.forget();
            two.pasts.clear();
            two.turn = 0;
            return true;
        }

        boolean split(Table one, Table two) {
            if (one.now != null || two.now != null || !two.pasts.isEmpty() || one.pasts.size() < 2) {
                return false;
            }
            int half = one.pasts.size() / 2;
            for (int i = 0; i < half; i++) {
                two.pasts.add(one.pasts.remove(0));
            }
            two.forget();
            one.turn = 0;
            two.turn = 0;
            return true;
        }

        int creditor(int guest) {
            int best = -1;
            for (int g = inn.guests - 1; g >= 0; g--) {
                if (debts[guest][g] > 0 && (best < 0 || debts[guest][g] >= debts[guest][best])) {
                    best = g;
                }
            }
            return best;
        }
    }

    /** The state behind n deeds, null if one of them can't be or there are not so many. */
    static State behind(Inn inn, List<Line> deeds, int n) {
        State state = new State(inn);
        if (n < 0 || n > deeds.size()) {
            return null;
        }
        for (int k = 0; k < n; k++) {
            if (!state.go(deeds.get(k))) {
                return null;
            }
        }
        return state;
    }

    static int stop(Inn inn, List<Line> deeds) {
        State state = new State(inn);
        int k = 0;
        while (k < deeds.size() && state.go(deeds.get(k))) {
            k++;
        }
        return k;
    }

    static int bits(Set<Integer> set) {
        int sum = 0;
        for (int i : set) {
            sum += 1 << i;
        }
        return sum;
    }

    // ---- what is asked of states -------------------------------------------------------------

    static int[] chain(State state, int guest) {
        List<Integer> row = new ArrayList<>();
        int next = guest;
        while (next >= 0 && !row.contains(next)) {
            row.add(next);
            next = state.creditor(next);
        }
        return new int[] {row.size(), row.get(row.size() - 1)};
    }

    private static Table fromNowOn(State state, int table) {
        Table trial = state.tables.get(table).copy();
        trial.night(0);
        return trial;
    }

    static int[] comes(State state, int table, int word) {
        int[] found = {-1, -1, 0};
        Table trial = fromNowOn(state, table);
        for (int sitting = 1; sitting <= 30; sitting++) {
            Past past = trial.quiet();
            if (past != null && past.words.contains(word)) {
                found[0] = found[0] < 0 ? sitting : found[0];
                found[1] = sitting;
                found[2]++;
            }
        }
        return found;
    }

    static int forgets(State state, int table, int guest) {
        Table trial = fromNowOn(state, table);
        for (int sittings = 0;; sittings++) {
            boolean has = false;
            for (Past past : trial.pasts) {
                has |= past.guests.contains(guest);
            }
            if (!has) {
                return sittings;
            }
            trial.quiet();
        }
    }

    /** Row of tables, by trying all of them in order; null if four nights are too few. */
    static List<Integer> spy(State state, int words) {
        for (int nights = 0; nights <= 4; nights++) {
            List<Integer> row = spyOn(state.tables, words, nights);
            if (row != null) {
                return row;
            }
        }
        return null;
    }

    private static List<Integer> spyOn(List<Table> tables, int words, int nights) {
        if (nights == 0) {
            return words == 0 ? new ArrayList<>() : null;
        }
        for (int t = 0; t < tables.size(); t++) {
            List<Table> trial = new ArrayList<>();
            for (Table table : tables) {
                trial.add(table.copy());
            }
            Past past = trial.get(t).quiet();
            List<Integer> rest = spyOn(trial, past == null ? words : words & ~bits(past.words), nights - 1);
            if (rest != null) {
                rest.add(0, t);
                return rest;
            }
        }
        return null;
    }

    static final class Seats {
        int ways = 0;
        int harm = -1;
        int paid = -1;
        int[] row = null;
    }

    static Seats seats(State state, List<Line> wishes) {
        Seats best = new Seats();
        int guests = state.inn.guests;
        int tables = state.tables.size();
        int rows = 1;
        for (int g = 0; g < guests; g++) {
            rows *= tables;
        }
        for (int number = 0; number < rows; number++) {
            int[] row = new int[guests];
            int rest = number;
            for (int g = guests - 1; g >= 0; g--) {
                row[g] = rest % tables;
                rest /= tables;
            }
            weigh(state, wishes, row, best);
        }
        return best;
    }

    private static void weigh(State state, List<Line> wishes, int[] row, Seats best) {
        int[] heads = new int[state.tables.size()];
        for (int t : row) {
            heads[t]++;
        }
        for (int t = 0; t < heads.length; t++) {
            if (heads[t] > state.tables.get(t).seats) {
                return;
            }
        }
        for (Line wish : wishes) {
            if (!fulfilled(state, wish, row)) {
                return;
            }
        }
        int harm = 0;
        int paid = 0;
        for (int t = 0; t < heads.length; t++) {
            Table table = state.tables.get(t);
            Past past = table.repeated();
            paid += heads[t] * table.price;
            if (heads[t] > 0 && past != null) {
                paid += past.guests.size() * table.price;
                for (int g = 0; g < row.length; g++) {
                    for (int p : past.guests) {
                        harm += row[g] == t && state.inn.quarrel[g][p] ? 1 : 0;
                    }
                }
            }
        }
        for (int g = 0; g < row.length; g++) {
            for (int h = 0; h < g; h++) {
                harm += row[g] == row[h] && state.inn.quarrel[g][h] ? 1 : 0;
            }
        }
        best.ways++;
        if (best.row == null || harm < best.harm || harm == best.harm && paid < best.paid) {
            best.row = row;
            best.harm = harm;
            best.paid = paid;
        }
    }

    private static boolean fulfilled(State state, Line wish, int[] row) {
        int one = wish.numbers.get(0);
        int two = wish.numbers.get(1);
        if (one >= row.length) {
            return false;
        }
        Past past = state.tables.get(row[one]).repeated();
        return switch (wish.word) {
            case "hear" -> past != null && past.words.contains(two);
            case "shun" -> past == null || !past.words.contains(two);
            case "apart" -> two < row.length && row[one] != row[two];
            default -> two < row.length && row[one] == row[two];
        };
    }

    /** Cuts by all ways to cut; -1 if none parts them. */
    static int cuts(Inn inn, Table table) {
        int size = table.pasts.size();
        int best = -1;
        for (int marks = 0; marks < 1 << Math.max(0, size - 1); marks++) {
            boolean fine = true;
            Set<Integer> part = new TreeSet<>();
            for (int k = 0; k < size; k++) {
                if (k > 0 && (marks >> k - 1 & 1) == 1) {
                    part = new TreeSet<>();
                }
                part.addAll(table.pasts.get(k).guests);
                fine &= !inn.anyQuarrel(part);
            }
            if (fine && (best < 0 || Integer.bitCount(marks) < best)) {
                best = Integer.bitCount(marks);
            }
        }
        return best;
    }

    static int least(Inn inn, Table table) {
        int size = table.pasts.size();
        int best = -1;
        for (int gone = 0; gone < 1 << size; gone++) {
            Set<Integer> left = new TreeSet<>();
            for (int k = 0; k < size; k++) {
                if ((gone >> k & 1) == 0) {
                    left.addAll(table.pasts.get(k).guests);
                }
            }
            if (!inn.anyQuarrel(left) && (best < 0 || Integer.bitCount(gone) < Integer.bitCount(best))) {
                best = gone;
            }
        }
        return best;
    }

    /** Fits, tells, and for each sitting the one who is sure: by all rows of guests. */
    static int[] fits(Inn inn, int table, List<Line> rows) {
        int size = rows.size();
        int all = 1;
        for (int i = 0; i < size; i++) {
            all *= inn.guests;
        }
        int fits = 0;
        Set<Integer> next = new TreeSet<>();
        List<Set<Integer>> seen = new ArrayList<>();
        for (int i = 0; i < size; i++) {
            seen.add(new TreeSet<>());
        }
        for (int number = 0; number < all; number++) {
            Table trial = new Table(inn.tables.get(table));
            int rest = number;
            boolean fine = true;
            int[] who = new int[size];
            for (int i = 0; i < size && fine; i++) {
                who[i] = rest % inn.guests;
                rest /= inn.guests;
                Past past = trial.repeated();
                Line row = rows.get(i);
                fine = row.word.equals("silence") ? past == null
                        : past != null && past.guests.contains(row.numbers.get(0));
                trial.goOn();
                trial.now = new Past();
                trial.now.guests.add(who[i]);
                trial.night(i);
            }
            if (fine) {
                fits++;
                for (int i = 0; i < size; i++) {
                    seen.get(i).add(who[i]);
                }
                if (trial.repeated() != null) {
                    next.addAll(trial.repeated().guests);
                }
            }
        }
        int[] answer = new int[2 + size];
        answer[0] = fits;
        answer[1] = next.size();
        for (int i = 0; i < size; i++) {
            answer[2 + i] = seen.get(i).size() == 1 ? seen.get(i).iterator().next() : -1;
        }
        return answer;
    }

    static int gain(State state, int one, int two, int a, int b) {
        Inn inn = state.inn;
        int sum = 0;
        for (Past past : state.tables.get(a).pasts) {
            for (int g : past.guests) {
                sum += inn.love[one][g] ? 1 : 0;
                sum -= inn.quarrel[one][g] ? 1 : 0;
            }
        }
        sum -= state.tables.get(a).price;
        if (a == b && inn.love[one][two]) {
            sum += 3;
        }
        if (a == b && inn.quarrel[one][two]) {
            sum -= 3;
        }
        return sum;
    }

    static List<Integer> rests(State state, int one, int two) {
        int tables = state.tables.size();
        List<Integer> found = new ArrayList<>();
        for (int number = 0; number < tables * tables; number++) {
            int a = number / tables;
            int b = number % tables;
            boolean rest = true;
            for (int t = 0; t < tables; t++) {
                rest &= gain(state, one, two, t, b) <= gain(state, one, two, a, b);
                rest &= gain(state, two, one, t, a) <= gain(state, two, one, b, a);
            }
            if (rest) {
                found.add(number);
            }
        }
        return found;
    }

    static int council(Inn inn) {
        int best = 0;
        for (int set = 0; set < 1 << inn.guests; set++) {
            if (Integer.bitCount(set) > Integer.bitCount(best) && !inn.anyQuarrel(members(set))) {
                best = set;
            }
        }
        return best;
    }

    static Set<Integer> members(int set) {
        Set<Integer> all = new TreeSet<>();
        for (int g = 0; g < 31; g++) {
            if ((set >> g & 1) == 1) {
                all.add(g);
            }
        }
        return all;
    }

    static int split(Inn inn) {
        for (int tables = 1;; tables++) {
            if (canSplit(inn, new int[inn.guests], 0, tables)) {
                return tables;
            }
        }
    }

    private static boolean canSplit(Inn inn, int[] at, int guest, int tables) {
        if (guest == inn.guests) {
            return true;
        }
        for (int t = 0; t < tables; t++) {
            boolean fine = true;
            for (int g = 0; g < guest; g++) {
                fine &= at[g] != t || !inn.quarrel[g][guest];
            }
            at[guest] = t;
            if (fine && canSplit(inn, at, guest + 1, tables)) {
                return true;
            }
        }
        return false;
    }

    static State drawn(Inn inn, int seed, int nights) {
        State state = new State(inn);
        long x = seed & 0xffffffffL;
        int tables = inn.tables.size();
        for (int night = 0; night < nights; night++) {
            int[] drew = new int[inn.guests];
            for (int g = 0; g < inn.guests; g++) {
                x = x * 1103515245L + 12345L & 0xffffffffL;
                drew[g] = (int) ((x >> 16) % tables);
            }
            for (int t = 0; t < tables; t++) {
                List<Integer> who = new ArrayList<>();
                for (int g = 0; g < inn.guests; g++) {
                    if (drew[g] == t) {
                        if (who.size() < state.tables.get(t).seats) {
                            who.add(g);
                        } else {
                            state.unseated++;
                        }
                    }
                }
                if (!who.isEmpty()) {
                    state.sit(state.tables.get(t), who);
                    for (int g : who) {
                        state.say(g, g);
                    }
                }
            }
            state.night();
        }
        return state;
    }

    /** Distances by relaxing until nothing changes. */
    static int gossip(State state, int from, int to) {
        int[] far = new int[8];
        java.util.Arrays.fill(far, 99);
        far[from] = 0;
        for (int round = 0; round < 8; round++) {
            for (int a = 0; a < 8; a++) {
                for (int b = 0; b < 8; b++) {
                    if (state.met[a][b]) {
                        far[b] = Math.min(far[b], far[a] + 1);
                    }
                }
            }
        }
        return far[to] == 99 ? -1 : far[to];
    }

    static int[] ghosts(State state) {
        int[] answer = {-1, -1, -1, -1};
        for (int g = 0; g < state.inn.guests; g++) {
            int many = 0;
            for (Table table : state.tables) {
                for (Past past : table.pasts) {
                    many += past.guests.contains(g) ? 1 : 0;
                }
            }
            if (many > Math.max(0, answer[1])) {
                answer[0] = g;
                answer[1] = many;
            }
        }
        for (int t = 0; t < state.tables.size(); t++) {
            int many = crowd(state.tables.get(t)).size();
            if (many > answer[3]) {
                answer[2] = t;
                answer[3] = many;
            }
        }
        return answer;
    }

    private static Set<Integer> crowd(Table table) {
        Set<Integer> all = new TreeSet<>();
        for (Past past : table.pasts) {
            all.addAll(past.guests);
        }
        return all;
    }

    /** The row of couples (99: none), by trying every row in order. */
    static List<Integer> weddings(State state) {
        List<List<Integer>> rows = new ArrayList<>();
        allWeddings(state, new ArrayList<>(), rows);
        List<Integer> best = null;
        for (List<Integer> row : rows) {
            if (best == null || wed(row) > wed(best)) {
                best = row;
            }
        }
        return best;
    }

    static int wed(List<Integer> row) {
        int many = 0;
        for (int couple : row) {
            many += couple == 99 ? 0 : 1;
        }
        return many;
    }

    private static void allWeddings(State state, List<Integer> row, List<List<Integer>> rows) {
        int t = row.size();
        if (t == state.tables.size()) {
            rows.add(new ArrayList<>(row));
            return;
        }
        Table table = state.tables.get(t);
        Set<Integer> crowd = crowd(table);
        for (int couple = 0; couple < 64; couple++) {
            int a = couple / 8;
            int b = couple % 8;
            boolean fine = a < b && table.seats >= 2 && state.inn.love[a][b];
            for (int g : crowd) {
                fine &= !state.inn.quarrel[a][g] && !state.inn.quarrel[b][g];
            }
            for (int other : row) {
                fine &= other == 99 || other / 8 != a && other / 8 != b && other % 8 != a && other % 8 != b;
            }
            if (fine) {
                row.add(couple);
                allWeddings(state, row, rows);
                row.remove(row.size() - 1);
            }
        }
        row.add(99);
        allWeddings(state, row, rows);
        row.remove(row.size() - 1);
    }
}
