import java.util.ArrayDeque;
import java.util.ArrayList;
import java.util.Arrays;
import java.util.Deque;
import java.util.HashSet;
import java.util.LinkedHashMap;
import java.util.List;
import java.util.Map;
import java.util.Set;

/**
 * The document once more, in the plainest way and by other means than the class: faults by an Earley recogniser of
 * the document's grammar, laws by trees, plans by trying everything. It is slow, and only here to be compared with.
 */
final class Model {
    static final int NONE = -1;

    // ---- the text

    record Token(String kind, String sign, int place) { }

    private static final Set<String> WORDS = Set.of("sunday", "guest", "foes", "pays", "rests", "wears", "sells",
        "death", "seed", "if", "then", "else", "fee", "hours", "hour", "rested", "worn", "worth", "week", "which",
        "others");

    private static final String[][] GRAMMAR = {
        {"text"}, {"text", "text", "tell"},
        {"tell", "sunday", "NAME", "INT", "INT", ";"},
        {"tell", "guest", "NAME", "INT", "INT", "INT", ";"},
        {"tell", "foes", "NAME", "NAME", ";"},
        {"tell", "lawword", "law", ";"},
        {"tell", "death", "INT", ";"},
        {"tell", "seed", "INT", ";"},
        {"lawword", "pays"}, {"lawword", "rests"}, {"lawword", "wears"}, {"lawword", "sells"},
        {"law", "=", "choice"},
        {"choice", "e"}, {"choice", "if", "e", "<", "e", "then", "e", "else", "choice"},
        {"e", "part"}, {"e", "e", "+", "part"}, {"e", "e", "-", "part"},
        {"part", "unit"}, {"part", "part", "*", "unit"}, {"part", "part", "/", "unit"},
        {"unit", "INT"}, {"unit", "var"}, {"unit", "(", "e", ")"},
        {"var", "fee"}, {"var", "hours"}, {"var", "hour"}, {"var", "rested"}, {"var", "worn"}, {"var", "worth"},
        {"var", "week"}, {"var", "which"}, {"var", "others"},
    };
    private static final Set<String> HEADS = heads();

    private static Set<String> heads() {
        Set<String> set = new HashSet<>();
        for (String[] rule : GRAMMAR) {
            set.add(rule[0]);
        }
        return set;
    }

    static List<Token> tokens(String text) {
        List<Token> row = new ArrayList<>();
        int i = 0;
        while (i < text.length()) {
            char c = text.charAt(i);
            if ("\t\n\r ".indexOf(c) >= 0) {
                i++;
                continue;
            }
            int j = i;
            if (c >= 'a' && c <= 'z') {
                while (j < text.length() && text.charAt(j) >= 'a' && text.charAt(j) <= 'z') {
                    j++;
                }
                String word = text.substring(i, j);
                row.add(new Token(word.length() > 8 ? "BAD" : WORDS.contains(word) ? word : "NAME", word, i));
            } else if (c >= '0' && c <= '9') {
                while (j < text.length() && text.charAt(j) >= '0' && text.charAt(j) <= '9') {
                    j++;
                }
                row.add(new Token(j - i > 4 ? "BAD" : "INT", text.substring(i, j), i));
            } else {
                j = i + 1;
                row.add(new Token(";=+-*/<()".indexOf(c) >= 0 ? "" + c : "BAD", "" + c, i));
            }
            i = j;
        }
        return row;
    }

    private record Item(int rule, int dot, int from) { }

    /** The number of the first token with which no text goes on; the row's size if the end is too early, -1 if none. */
    static int firstSyntaxFault(List<Token> row) {
        List<Set<Item>> sets = new ArrayList<>();
        Set<Item> now = new HashSet<>();
        now.add(new Item(0, 0, 0));
        now.add(new Item(1, 0, 0));
        for (int n = 0;; n++) {
            sets.add(now);
            Deque<Item> work = new ArrayDeque<>(now);
            Set<Item> next = new HashSet<>();
            boolean whole = false;
            while (!work.isEmpty()) {
                Item item = work.pop();
                String[] rule = GRAMMAR[item.rule()];
                List<Item> more = new ArrayList<>();
                if (item.dot() + 1 == rule.length) {
                    whole |= rule[0].equals("text") && item.from() == 0;
                    for (Item other : new ArrayList<>(sets.get(item.from()))) {
                        String[] r = GRAMMAR[other.rule()];
                        if (other.dot() + 1 < r.length && r[other.dot() + 1].equals(rule[0])) {
                            more.add(new Item(other.rule(), other.dot() + 1, other.from()));
                        }
                    }
                } else {
                    String want = rule[item.dot() + 1];
                    if (HEADS.contains(want)) {
                        for (int r = 0; r < GRAMMAR.length; r++) {
                            if (GRAMMAR[r][0].equals(want)) {
                                more.add(new Item(r, 0, n));
                            }
                        }
                        if (want.equals("text")) {
                            more.add(new Item(item.rule(), item.dot() + 1, item.from()));
                        }
                    } else if (n < row.size() && row.get(n).kind().equals(want)) {
                        next.add(new Item(item.rule(), item.dot() + 1, item.from()));
                    }
                }
                for (Item m : more) {
                    if (now.add(m)) {
                        work.push(m);
                    }
                }
            }
            if (n == row.size()) {
                return whole ? -1 : n;
            }
            if (next.isEmpty()) {
                return n;
            }
            now = next;
        }
    }

    /** Of the tokens ahead of 'end', the first for which there is no room; -1 if none. */
    static int firstRoomFault(List<Token> row, int end) {
        int sundays = 0;
        int guests = 0;
        int foes = 0;
        int ifs = 0;
        int open = 0;
        for (int i = 0; i < end; i++) {
            switch (row.get(i).kind()) {
                case "sunday" -> sundays++;
                case "guest" -> guests++;
                case "foes" -> foes++;
                case "if" -> ifs++;
                case "(" -> open++;
                case ")" -> open--;
                case ";" -> ifs = 0;
                default -> { }
            }
            if (i >= 400 || sundays > 4 || guests > 7 || foes > 8 || ifs > 4 || open > 6) {
                return i;
            }
        }
        return -1;
    }

    interface Tree {
        int value(Map<String, Integer> vars);
    }

    static final class DividedByZero extends RuntimeException {
        private static final long serialVersionUID = 1L;
    }

    /** A law's tokens, behind its '='. */
    static final class LawReader {
        private final List<Token> row;
        private int next = 0;

        LawReader(List<Token> row) {
            this.row = row;
        }

        private boolean comes(String kind) {
            return next < row.size() && row.get(next).kind().equals(kind);
        }

        Tree choice() {
            if (!comes("if")) {
                return sum();
            }
            next++;
            Tree left = sum();
            next++;
            Tree right = sum();
            next++;
            Tree good = sum();
            next++;
            Tree bad = choice();
            return v -> left.value(v) < right.value(v) ? good.value(v) : bad.value(v);
        }

        private Tree sum() {
            Tree tree = product();
            while (comes("+") || comes("-")) {
                boolean plus = comes("+");
                next++;
                Tree left = tree;
                Tree right = product();
                tree = plus ? v -> left.value(v) + right.value(v) : v -> left.value(v) - right.value(v);
            }
            return tree;
        }

        private Tree product() {
            Tree tree = unit();
            while (comes("*") || comes("/")) {
                boolean times = comes("*");
                next++;
                Tree left = tree;
                Tree right = unit();
                tree = times ? v -> left.value(v) * right.value(v) : v -> {
                    int l = left.value(v);
                    int r = right.value(v);
                    if (r == 0) {
                        throw new DividedByZero();
                    }
                    return l / r;
                };
            }
            return tree;
        }

        private Tree unit() {
            Token token = row.get(next);
            next++;
            if (token.kind().equals("(")) {
                Tree tree = sum();
                next++;
                return tree;
            }
            if (token.kind().equals("INT")) {
                int number = Integer.parseInt(token.sign());
                return v -> number;
            }
            return v -> v.get(token.sign());
        }
    }

    static final class Sunday {
        String name;
        int howLong;
        int worth;
    }

    static final class Guest {
        String name;
        int hour;
        int hours;
        int fee;
    }

    static final class Text {
        final List<Sunday> sundays = new ArrayList<>();
        final List<Guest> guests = new ArrayList<>();
        final Set<Set<Integer>> foes = new HashSet<>();
        final Map<String, Tree> laws = new LinkedHashMap<>();
        int death = 100;
        int seed = 0;

        Text() {
            laws.put("pays", v -> v.get("fee"));
            laws.put("rests", v -> v.get("hours"));
            laws.put("wears", v -> 1);
            laws.put("sells", v -> v.get("worth"));
        }
    }

    // ---- all that goes on

    static final class State {
        int week = 0;
        int money = 0;
        int[] where = {-2, -2, -2, -2, -2, -2, -2};
        int[] rested = new int[7];
        boolean[] dead = new boolean[7];
        int[] worn = new int[4];
        boolean[] sold = new boolean[4];

        State copy() {
            State s = new State();
            s.week = week;
            s.money = money;
            s.where = where.clone();
            s.rested = rested.clone();
            s.dead = dead.clone();
            s.worn = worn.clone();
            s.sold = sold.clone();
            return s;
        }
    }

    private String tape = "";
    private Text text = new Text();
    private State now = new State();
    private Deque<State> done = new ArrayDeque<>();
    private State[] slots = new State[3];
    private final List<int[]> told = new ArrayList<>();
    private int faultPlace = NONE;

    int feed(int a, int b, int c, int d, int e) {
        if (tape.length() > 1980) {
            return NONE;
        }
        StringBuilder more = new StringBuilder();
        for (int word : new int[] {a, b, c, d, e}) {
            for (int i = 3; i >= 0; i--) {
                more.append((char) (word >>> 8 * i & 255));
            }
        }
        tape += more;
        return tape.length();
    }

    int back(int n) {
        if (n < 0 || n > tape.length()) {
            return NONE;
        }
        tape = tape.substring(0, tape.length() - n);
        return tape.length();
    }

    int read() {
        String all = tape;
        tape = "";
        List<Token> row = tokens(all);
        int syntax = firstSyntaxFault(row);
        int room = firstRoomFault(row, syntax < 0 ? row.size() : syntax);
        if (room >= 0) {
            faultPlace = row.get(room).place();
            return 2;
        }
        if (syntax >= 0) {
            faultPlace = syntax < row.size() ? row.get(syntax).place() : all.length();
            return 1;
        }
        Text fresh = new Text();
        int fault = fill(fresh, row);
        if (fault == 0) {
            faultPlace = NONE;
            text = fresh;
            now = new State();
            done.clear();
            slots = new State[3];
            told.clear();
        }
        return fault;
    }

    private int fault(int number, Token at) {
        faultPlace = at.place();
        return number;
    }

    private int fill(Text t, List<Token> row) {
        int i = 0;
        while (i < row.size()) {
            int end = i;
            while (!row.get(end).kind().equals(";")) {
                end++;
            }
            int fault = fillOne(t, row.subList(i, end));
            if (fault != 0) {
                return fault;
            }
            i = end + 1;
        }
        return 0;
    }

    private int fillOne(Text t, List<Token> r) {
        String head = r.get(0).kind();
        int[] low = {};
        int[] high = {};
        int from = 2;
        switch (head) {
            case "sunday" -> {
                low = new int[] {1, 0};
                high = new int[] {24, 99};
            }
            case "guest" -> {
                low = new int[] {0, 1, 0};
                high = new int[] {23, 12, 99};
            }
            case "death" -> {
                low = new int[] {1};
                high = new int[] {999};
                from = 1;
            }
            case "seed" -> {
                low = new int[] {0};
                high = new int[] {9999};
                from = 1;
            }
            default -> { }
        }
        if (head.equals("sunday") || head.equals("guest")) {
            String name = r.get(1).sign();
            if (t.sundays.stream().anyMatch(s -> s.name.equals(name)) || indexOf(t, name) >= 0) {
                return fault(3, r.get(1));
            }
        }
        int[] n = new int[3];
        for (int i = 0; i < low.length; i++) {
            n[i] = Integer.parseInt(r.get(from + i).sign());
            if (n[i] < low[i] || n[i] > high[i]) {
                return fault(5, r.get(from + i));
            }
        }
        switch (head) {
            case "sunday" -> {
                Sunday s = new Sunday();
                s.name = r.get(1).sign();
                s.howLong = n[0];
                s.worth = n[1];
                t.sundays.add(s);
            }
            case "guest" -> {
                Guest g = new Guest();
                g.name = r.get(1).sign();
                g.hour = n[0];
                g.hours = n[1];
                g.fee = n[2];
                t.guests.add(g);
            }
            case "foes" -> {
                return fillFoes(t, r);
            }
            case "death" -> t.death = n[0];
            case "seed" -> t.seed = n[0];
            default -> t.laws.put(head, new LawReader(r.subList(2, r.size())).choice());
        }
        return 0;
    }

    private int fillFoes(Text t, List<Token> r) {
        int a = indexOf(t, r.get(1).sign());
        int b = indexOf(t, r.get(2).sign());
        if (a < 0) {
            return fault(4, r.get(1));
        }
        if (b < 0) {
            return fault(4, r.get(2));
        }
        if (a == b || !t.foes.add(Set.of(a, b))) {
            return fault(3, r.get(2));
        }
        return 0;
    }

    private static int indexOf(Text t, String name) {
        for (int g = 0; g < t.guests.size(); g++) {
            if (t.guests.get(g).name.equals(name)) {
                return g;
            }
        }
        return -1;
    }

    int place() {
        return faultPlace;
    }

    // ---- words of part II

    private int sundays() {
        return text.sundays.size();
    }

    private int guests() {
        return text.guests.size();
    }

    private boolean isSunday(int s) {
        return s >= 0 && s < sundays();
    }

    private boolean isGuest(int g) {
        return g >= 0 && g < guests();
    }

    private Set<Integer> hoursOf(int g) {
        Set<Integer> set = new HashSet<>();
        for (int i = 0; i < text.guests.get(g).hours; i++) {
            set.add(text.guests.get(g).hour + i);
        }
        return set;
    }

    private boolean clash(int g, int o) {
        if (g == o) {
            return false;
        }
        if (text.foes.contains(Set.of(g, o))) {
            return true;
        }
        Set<Integer> both = hoursOf(g);
        both.retainAll(hoursOf(o));
        return !both.isEmpty();
    }

    private boolean fits(State st, int g, int s) {
        for (int h : hoursOf(g)) {
            if (h >= text.sundays.get(s).howLong) {
                return false;
            }
        }
        return !st.sold[s];
    }

    private List<Integer> in(State st, int s) {
        List<Integer> row = new ArrayList<>();
        for (int g = 0; g < guests(); g++) {
            if (st.where[g] == s) {
                row.add(g);
            }
        }
        return row;
    }

    private Set<Integer> taken(State st, int s) {
        Set<Integer> set = new HashSet<>();
        for (int g : in(st, s)) {
            set.addAll(hoursOf(g));
        }
        return set;
    }

    private int law(String which, Map<String, Integer> vars) {
        int value;
        try {
            value = text.laws.get(which).value(vars);
        } catch (DividedByZero e) {
            value = 0;
        }
        return value < 0 ? 0 : value > 99 ? 99 : value;
    }

    private int guestLaw(String which, State st, int g, int s, int others) {
        Guest guest = text.guests.get(g);
        return law(which, Map.of("fee", guest.fee, "hours", guest.hours, "hour", guest.hour, "rested", st.rested[g],
            "worn", st.worn[s], "worth", text.sundays.get(s).worth, "week", st.week, "which", g, "others", others));
    }

    private int guestLawNow(String which, State st, int g) {
        int s = st.where[g];
        return s < 0 ? 0 : guestLaw(which, st, g, s, in(st, s).size() - 1);
    }

    private int sundayLaw(String which, State st, int s) {
        return law(which, Map.of("fee", 0, "hours", taken(st, s).size(), "hour", 0, "rested", 0, "worn", st.worn[s],
            "worth", text.sundays.get(s).worth, "week", st.week, "which", s, "others", in(st, s).size()));
    }

    static int lot(int n, int seed, int which) {
        int h = seed;
        for (int it : new int[] {165, which}) {
            h = (h ^ it) * 1103515245 + 12345;
            h = h ^ (h >>> 15);
        }
        return (h >>> 1) % n;
    }

    private State weekOn(State old, boolean deaths, int seed) {
        State st = old.copy();
        for (int g = 0; g < guests(); g++) {
            if (old.where[g] >= 0) {
                st.money += guestLawNow("pays", old, g);
                st.rested[g] = Math.min(999, old.rested[g] + guestLawNow("rests", old, g));
            } else if (!old.dead[g]) {
                st.rested[g] = Math.max(0, old.rested[g] - 1);
            }
        }
        for (int s = 0; s < sundays(); s++) {
            if (!in(old, s).isEmpty()) {
                st.worn[s] = Math.min(99, old.worn[s] + sundayLaw("wears", old, s));
            }
        }
        for (int g = 0; g < guests() && deaths; g++) {
            if (old.where[g] >= 0 && st.rested[g] >= text.death
                && lot(100, seed, 8 * old.week + g) < st.rested[g] - text.death + 10) {
                st.dead[g] = true;
                st.where[g] = -2;
            }
        }
        st.week = old.week + 1;
        return st;
    }

    private State weeksOn(State old, int n, boolean deaths, int seed) {
        State st = old.copy();
        for (int i = 0; i < n; i++) {
            st = weekOn(st, deaths, seed);
        }
        return st;
    }

    private void doing() {
        done.addLast(now.copy());
        if (done.size() > 40) {
            done.removeFirst();
        }
    }

    // ---- promises 6 to 14

    int sunday(int s, int what) {
        if (!isSunday(s)) {
            return NONE;
        }
        return switch (what) {
            case 0 -> text.sundays.get(s).howLong;
            case 1 -> text.sundays.get(s).worth;
            case 2 -> now.worn[s];
            case 3 -> now.sold[s] ? 1 : 0;
            case 4 -> bits(in(now, s));
            case 5 -> in(now, s).isEmpty() ? 0 : sundayLaw("wears", now, s);
            case 6 -> sundayLaw("sells", now, s);
            default -> NONE;
        };
    }

    private static int bits(Iterable<Integer> row) {
        int sum = 0;
        for (int i : row) {
            sum += 1 << i;
        }
        return sum;
    }

    int guest(int g, int what) {
        if (!isGuest(g)) {
            return NONE;
        }
        return switch (what) {
            case 0 -> text.guests.get(g).hour;
            case 1 -> text.guests.get(g).hours;
            case 2 -> text.guests.get(g).fee;
            case 3 -> now.where[g];
            case 4 -> now.rested[g];
            case 5 -> now.dead[g] ? 1 : 0;
            case 6 -> guestLawNow("pays", now, g);
            case 7 -> guestLawNow("rests", now, g);
            default -> NONE;
        };
    }

    int at(int s, int hour) {
        if (!isSunday(s) || hour < 0 || hour >= text.sundays.get(s).howLong) {
            return NONE;
        }
        for (int g : in(now, s)) {
            if (hoursOf(g).contains(hour)) {
                return g;
            }
        }
        return -2;
    }

    private boolean canEnter(State st, int g, int s) {
        if (st.dead[g] || st.where[g] >= 0 || !fits(st, g, s)) {
            return false;
        }
        for (int o : in(st, s)) {
            if (clash(g, o)) {
                return false;
            }
        }
        return true;
    }

    boolean letIn(int g, int s) {
        if (!isGuest(g) || !isSunday(s) || !canEnter(now, g, s)) {
            return false;
        }
        doing();
        now.where[g] = s;
        return true;
    }

    boolean putOut(int g) {
        if (!isGuest(g) || now.where[g] < 0) {
            return false;
        }
        doing();
        now.where[g] = -2;
        return true;
    }

    int sell(int s) {
        if (!isSunday(s) || !in(now, s).isEmpty() || now.sold[s]) {
            return NONE;
        }
        doing();
        int price = sundayLaw("sells", now, s);
        now.sold[s] = true;
        now.money += price;
        return price;
    }

    boolean air(int s) {
        if (!isSunday(s) || !in(now, s).isEmpty() || now.sold[s] || now.worn[s] == 0) {
            return false;
        }
        doing();
        now.worn[s] = 0;
        now.money = Math.max(0, now.money - 1);
        return true;
    }

    int weeks(int n) {
        if (n < 0 || n > 40) {
            return NONE;
        }
        if (n > 0) {
            doing();
            now = weeksOn(now, n, true, text.seed);
        }
        return now.week;
    }

    boolean undo() {
        if (done.isEmpty()) {
            return false;
        }
        now = done.removeLast();
        return true;
    }

    // ---- promises 15 to 36

    private List<Integer> living() {
        List<Integer> row = new ArrayList<>();
        for (int g = 0; g < guests(); g++) {
            if (!now.dead[g]) {
                row.add(g);
            }
        }
        return row;
    }

    private boolean quiet(int set) {
        for (int a = 0; a < 7; a++) {
            for (int b = 0; b < a; b++) {
                if ((set >> a & 1) == 1 && (set >> b & 1) == 1 && clash(a, b)) {
                    return false;
                }
            }
        }
        return true;
    }

    int alone(int s, int what) {
        if (!isSunday(s) || what < 0 || what > 1) {
            return NONE;
        }
        int most = -1;
        int who = 0;
        for (int set = 0; set < 128; set++) {
            if ((set & ~bits(living())) != 0 || !quiet(set)) {
                continue;
            }
            int sum = 0;
            boolean good = true;
            for (int g = 0; g < guests(); g++) {
                if ((set >> g & 1) == 1) {
                    good &= fits(now, g, s);
                    sum += guestLaw("pays", now, g, s, 0);
                }
            }
            if (good && sum > most) {
                most = sum;
                who = set;
            }
        }
        return what == 0 ? most : who;
    }

    /** Every way to put those who live into Sundays or none, each looked at. */
    private void tryAll(List<Integer> row, int i, int[] sets, int money, int left, int[][] best) {
        if (i == row.size()) {
            if (best[0] == null || money > best[0][0] || money == best[0][0] && isLess(sets, best[1])) {
                best[0] = new int[] {money};
                best[1] = sets.clone();
            }
            if (left == 0) {
                int used = 0;
                for (int s = 0; s < 4; s++) {
                    used |= sets[s] != 0 ? 1 << s : 0;
                }
                if (best[2] == null || Integer.bitCount(used) < Integer.bitCount(best[2][0])
                    || Integer.bitCount(used) == Integer.bitCount(best[2][0]) && used < best[2][0]) {
                    best[2] = new int[] {used};
                }
            }
            return;
        }
        int g = row.get(i);
        tryAll(row, i + 1, sets, money, left + 1, best);
        for (int s = 0; s < sundays(); s++) {
            if (fits(now, g, s) && quiet(sets[s] | 1 << g)) {
                sets[s] |= 1 << g;
                tryAll(row, i + 1, sets, money + guestLaw("pays", now, g, s, 0), left, best);
                sets[s] &= ~(1 << g);
            }
        }
    }

    private static boolean isLess(int[] a, int[] b) {
        for (int s = 3; s >= 0; s--) {
            if (a[s] != b[s]) {
                return a[s] < b[s];
            }
        }
        return false;
    }

    int letting(int i) {
        if (i != NONE && !isSunday(i)) {
            return NONE;
        }
        int[][] best = new int[3][];
        tryAll(living(), 0, new int[4], 0, 0, best);
        return i == NONE ? best[0][0] : best[1][i];
    }

    int fewest(int what) {
        if (what < 0 || what > 1) {
            return NONE;
        }
        int[][] best = new int[3][];
        tryAll(living(), 0, new int[4], 0, 0, best);
        if (best[2] == null) {
            return -2;
        }
        return what == 0 ? Integer.bitCount(best[2][0]) : best[2][0];
    }

    int colours() {
        List<Integer> row = living();
        for (int k = 0;; k++) {
            if (canColour(row, 0, k, new int[7])) {
                return k;
            }
        }
    }

    private boolean canColour(List<Integer> row, int i, int k, int[] colour) {
        if (i == row.size()) {
            return true;
        }
        for (int c = 1; c <= k; c++) {
            boolean good = true;
            for (int j = 0; j < i; j++) {
                good &= colour[j] != c || !clash(row.get(i), row.get(j));
            }
            if (good) {
                colour[i] = c;
                if (canColour(row, i + 1, k, colour)) {
                    return true;
                }
            }
        }
        return false;
    }

    int tangle(int what) {
        if (what < 0 || what > 1) {
            return NONE;
        }
        int most = 0;
        int who = 0;
        for (int set = 0; set < 128; set++) {
            boolean good = (set & ~bits(living())) == 0;
            for (int a = 0; a < 7 && good; a++) {
                for (int b = 0; b < a && good; b++) {
                    good = (set >> a & 1) == 0 || (set >> b & 1) == 0 || clash(a, b);
                }
            }
            if (good && Integer.bitCount(set) > most) {
                most = Integer.bitCount(set);
                who = set;
            }
        }
        return what == 0 ? most : who;
    }

    int fitting(int g) {
        if (!isGuest(g)) {
            return NONE;
        }
        int sum = 0;
        for (int s = 0; s < sundays(); s++) {
            sum += fits(now, g, s) ? 1 << s : 0;
        }
        return sum;
    }

    int row(int s, int i) {
        if (!isSunday(s)) {
            return NONE;
        }
        List<Integer> row = in(now, s);
        row.sort((a, b) -> text.guests.get(a).hour - text.guests.get(b).hour);
        return i < 0 || i >= row.size() ? NONE : row.get(i);
    }

    int change(int g, int o) {
        if (!isGuest(g) || !isGuest(o) || now.where[g] < 0 || now.where[o] < 0 || now.where[g] == now.where[o]) {
            return NONE;
        }
        State both = now.copy();
        both.where[g] = -2;
        both.where[o] = -2;
        return canEnter(both, g, now.where[o]) && canEnter(both, o, now.where[g]) ? 1 : 0;
    }

    int payer(int what) {
        if (what < 0 || what > 1) {
            return NONE;
        }
        int who = -2;
        int most = -2;
        for (int g = 0; g < guests(); g++) {
            if (now.where[g] >= 0 && guestLawNow("pays", now, g) > most) {
                who = g;
                most = guestLawNow("pays", now, g);
            }
        }
        return what == 0 ? who : most;
    }

    int idle() {
        int sum = 0;
        for (int s = 0; s < sundays(); s++) {
            for (int h = 0; h < text.sundays.get(s).howLong && !now.sold[s]; h++) {
                sum += at(s, h) == -2 ? 1 : 0;
            }
        }
        return sum;
    }

    int used(int s, int v) {
        if (!isSunday(s) || v < 1 || v > 99) {
            return NONE;
        }
        State st = now;
        for (int n = 0; n <= 100; n++) {
            if (st.worn[s] >= v) {
                return n;
            }
            st = weekOn(st, false, 0);
        }
        return -2;
    }

    int first(int what) {
        if (what < 0 || what > 1) {
            return NONE;
        }
        State st = now;
        for (int n = 0; n <= 100; n++) {
            for (int g = 0; g < guests(); g++) {
                if (!st.dead[g] && st.rested[g] >= text.death) {
                    return what == 0 ? n : g;
                }
            }
            st = weekOn(st, false, 0);
        }
        return -2;
    }

    int gap(int s, int what) {
        if (!isSunday(s) || what < 0 || what > 1) {
            return NONE;
        }
        int howLong = text.sundays.get(s).howLong;
        for (int size = howLong; size > 0; size--) {
            for (int from = 0; from + size <= howLong; from++) {
                boolean free = true;
                for (int h = from; h < from + size; h++) {
                    free &= at(s, h) == -2;
                }
                if (free) {
                    return what == 0 ? size : from;
                }
            }
        }
        return what == 0 ? 0 : -2;
    }

    int room(int g) {
        if (!isGuest(g)) {
            return NONE;
        }
        State st = now.copy();
        st.where[g] = -2;
        int sum = 0;
        for (int s = 0; s < sundays(); s++) {
            sum += canEnter(st, g, s) ? 1 << s : 0;
        }
        return sum;
    }

    int price(int s, int n) {
        if (!isSunday(s) || now.sold[s] || n < 0 || n > 40) {
            return NONE;
        }
        return sundayLaw("sells", weeksOn(now, n, false, 0), s);
    }

    int best(int s, int n, int what) {
        if (what < 0 || what > 1 || price(s, n) == NONE) {
            return NONE;
        }
        int when = 0;
        for (int i = 0; i <= n; i++) {
            if (price(s, i) > price(s, when)) {
                when = i;
            }
        }
        return what == 0 ? when : price(s, when);
    }

    int weary(int g) {
        if (!isGuest(g)) {
            return NONE;
        }
        State st = now;
        for (int n = 0; n <= 100; n++) {
            if (st.rested[g] >= text.death) {
                return n;
            }
            st = weekOn(st, false, 0);
        }
        return -2;
    }

    int earned(int n) {
        return n < 0 || n > 40 ? NONE : weeksOn(now, n, false, 0).money - now.money;
    }

    int rivals(int g) {
        if (!isGuest(g)) {
            return NONE;
        }
        int sum = 0;
        for (int o = 0; o < guests(); o++) {
            sum += clash(g, o) ? 1 << o : 0;
        }
        return sum;
    }

    int then(int g, int n, int what) {
        if (!isGuest(g) || n < 0 || n > 40 || what < 0 || what > 2) {
            return NONE;
        }
        State st = weeksOn(now, n, true, text.seed);
        return what == 0 ? st.where[g] : what == 1 ? st.rested[g] : st.dead[g] ? 1 : 0;
    }

    int wornIn(int s, int n) {
        return !isSunday(s) || n < 0 || n > 40 ? NONE : weeksOn(now, n, true, text.seed).worn[s];
    }

    int year(int g, int n, int s) {
        if (!isGuest(g) || n < 0 || n > 40 || s < 1 || s > 20) {
            return NONE;
        }
        int sum = 0;
        for (int i = 0; i < s; i++) {
            sum += weeksOn(now, n, true, text.seed + i).dead[g] ? 0 : 1;
        }
        return sum;
    }

    // ---- promises 37 to 43

    int tell(int hour, boolean there) {
        if (hour < 0 || hour > 23 || told.size() == 20) {
            return NONE;
        }
        told.add(new int[] {hour, there ? 1 : 0});
        return told.size() - 1;
    }

    int forget() {
        int n = told.size();
        told.clear();
        return n;
    }

    private List<Integer> left(List<int[]> known) {
        List<Integer> row = new ArrayList<>();
        for (int g = 0; g < guests(); g++) {
            boolean so = true;
            for (int[] one : known) {
                so &= hoursOf(g).contains(one[0]) == (one[1] == 1);
            }
            if (so) {
                row.add(g);
            }
        }
        return row;
    }

    int whose(int k, int what) {
        if (k < 0 || k > told.size() || what < 0 || what > 1) {
            return NONE;
        }
        List<Integer> row = left(told.subList(0, k));
        return what == 0 ? row.size() : bits(row);
    }

    int look(int k) {
        if (k < 0 || k > told.size()) {
            return NONE;
        }
        if (left(told.subList(0, k)).isEmpty()) {
            return -2;
        }
        int[] worst = new int[24];
        for (int h = 0; h < 24; h++) {
            for (int there = 0; there < 2; there++) {
                List<int[]> more = new ArrayList<>(told.subList(0, k));
                more.add(new int[] {h, there});
                worst[h] = Math.max(worst[h], left(more).size());
            }
        }
        int least = Arrays.stream(worst).min().getAsInt();
        int h = 0;
        while (worst[h] != least) {
            h++;
        }
        return h;
    }

    boolean hold(int slot) {
        if (slot < 0 || slot > 2) {
            return false;
        }
        slots[slot] = now.copy();
        return true;
    }

    boolean restore(int slot) {
        if (slot < 0 || slot > 2 || slots[slot] == null) {
            return false;
        }
        now = slots[slot].copy();
        done.clear();
        return true;
    }

    int count(int what) {
        int sum = 0;
        switch (what) {
            case 0:
                return sundays();
            case 1:
                return guests();
            case 2:
                return now.week;
            case 3:
                return now.money;
            case 7:
                for (int g = 0; g < guests(); g++) {
                    sum += guestLawNow("pays", now, g);
                }
                return sum;
            case 8:
                return tape.length();
            case 9:
                return done.size();
            case 10:
                return told.size();
            case 11:
                for (State slot : slots) {
                    sum += slot == null ? 0 : 1;
                }
                return sum;
            case 4:
            case 5:
            case 13:
            case 14:
            case 16:
            case 18:
                for (int g = 0; g < guests(); g++) {
                    sum += countGuest(g, what);
                }
                return sum;
            case 6:
            case 12:
            case 15:
            case 17:
                for (int s = 0; s < sundays(); s++) {
                    sum += countSunday(s, what);
                }
                return sum;
            default:
                return NONE;
        }
    }

    private int countGuest(int g, int what) {
        return switch (what) {
            case 4 -> now.where[g] >= 0 ? 1 << g : 0;
            case 5 -> now.dead[g] ? 1 << g : 0;
            case 13 -> now.rested[g];
            case 14 -> Integer.bitCount(rivals(g) >> g);
            case 16 -> fitting(g) != 0 ? 1 << g : 0;
            default -> now.dead[g] ? 0 : text.guests.get(g).fee;
        };
    }

    private int countSunday(int s, int what) {
        return switch (what) {
            case 6 -> now.sold[s] ? 1 << s : 0;
            case 12 -> now.worn[s];
            case 15 -> in(now, s).isEmpty() ? 0 : 1 << s;
            default -> now.sold[s] ? 0 : text.sundays.get(s).howLong;
        };
    }
}
