/** Sundays that were left owing, and are let. The document's promises stand beside each public method by number. */
public final class LentSundays {
    public static final int NONE = -1;

    /** What the document tells as -2: nobody, nowhere, never. */
    private static final int NOBODY = -2;

    private static final int MOST_BYTES = 2000;
    private static final int MOST_TOKENS = 400;
    private static final int MOST_SUNDAYS = 4;
    private static final int MOST_GUESTS = 7;
    private static final int MOST_FOES = 8;
    private static final int MOST_IFS = 4;
    private static final int MOST_NESTED = 6;
    private static final int MOST_UNDONE = 40;
    private static final int MOST_TOLD = 20;
    private static final int MOST_SLOTS = 3;
    private static final int MOST_WEEKS = 40;
    private static final int MOST_WEEKS_AWAITED = 100;
    private static final int MOST_SEEDS = 20;
    private static final int MOST_OF_A_LAW = 99;
    private static final int MOST_WORN = 99;
    private static final int MOST_RESTED = 999;
    private static final int DAY = 24;

    /** Every set of guests is a number below this. */
    private static final int SETS = 1 << MOST_GUESTS;

    private static final int SYNTAX = 1;
    private static final int ROOM = 2;
    private static final int TWICE = 3;
    private static final int NAME_FAULT = 4;
    private static final int WRONG = 5;

    // The kinds of tokens. The signs stand in the order of SIGNS, the words in that of WORDS.
    private static final int END = 0;
    private static final int NO_TOKEN = 1;
    private static final int NAME = 2;
    private static final int INT = 3;
    private static final int SEMICOLON = 4;
    private static final int EQUALS = 5;
    private static final int PLUS = 6;
    private static final int MINUS = 7;
    private static final int TIMES = 8;
    private static final int OVER = 9;
    private static final int LESS = 10;
    private static final int OPEN = 11;
    private static final int CLOSE = 12;
    private static final int WORD = 13;
    private static final int WORD_SUNDAY = 13;
    private static final int WORD_GUEST = 14;
    private static final int WORD_FOES = 15;
    private static final int WORD_PAYS = 16;
    private static final int WORD_SELLS = 19;
    private static final int WORD_DEATH = 20;
    private static final int WORD_SEED = 21;
    private static final int WORD_IF = 22;
    private static final int WORD_THEN = 23;
    private static final int WORD_ELSE = 24;
    private static final int WORD_FEE = 25;
    private static final int WORD_OTHERS = 33;

    private static final String SIGNS = ";=+-*/<()";
    private static final String WORDS =
        "sunday guest foes pays rests wears sells death seed if then else fee hours hour rested worn worth week which others ";
    private static final int WORD_COUNT = 21;
    private static final int MOST_LETTERS = 8;
    private static final int MOST_DIGITS = 4;

    // The laws, in the order of their words.
    private static final int PAYS = 0;
    private static final int RESTS = 1;
    private static final int WEARS = 2;
    private static final int SELLS = 3;
    private static final int LAWS = 4;

    // The variables of a law, in the order of their words.
    private static final int FEE = 0;
    private static final int HOURS = 1;
    private static final int HOUR = 2;
    private static final int RESTED = 3;
    private static final int WORN = 4;
    private static final int WORTH = 5;
    private static final int WEEK = 6;
    private static final int WHICH = 7;
    private static final int OTHERS = 8;
    private static final int VARS = 9;

    private final Tape tape = new Tape();
    private final Reader reader = new Reader();
    private final State now = new State();
    /** A second state, for what would be. */
    private final State ahead = new State();
    private final Trail trail = new Trail();
    private final State[] slots = new State[MOST_SLOTS];
    private final House house = new House();
    private final Planner planner = new Planner();
    private final Clues clues = new Clues();
    private Text text = new Text();
    /** A text is read into this one, so that a fault leaves the other as it is. */
    private Text spare = new Text();
    private int heldSlots = 0;

    /** Promise 1. */
    public LentSundays() {
        for (int i = 0; i < MOST_SLOTS; i++) {
            slots[i] = new State();
        }
    }

    /** Promise 2. */
    public int feed(int a, int b, int c, int d, int e) {
        if (!tape.hasRoomFor(20)) {
            return NONE;
        }
        tape.addFour(a);
        tape.addFour(b);
        tape.addFour(c);
        tape.addFour(d);
        tape.addFour(e);
        return tape.length;
    }

    /** Promise 3. */
    public int back(int n) {
        if (n < 0 || n > tape.length) {
            return NONE;
        }
        tape.length -= n;
        return tape.length;
    }

    /** Promise 4. */
    public int read() {
        reader.readTape(tape, spare);
        tape.length = 0;
        if (reader.fault == 0) {
            Text older = text;
            text = spare;
            spare = older;
            now.begin();
            trail.many = 0;
            clues.many = 0;
            heldSlots = 0;
        }
        return reader.fault;
    }

    /** Promise 5. */
    public int place() {
        return reader.faultPlace;
    }

    /** Promise 6. */
    public int sunday(int sunday, int what) {
        if (!isSunday(sunday)) {
            return NONE;
        }
        switch (what) {
            case 0:
                return text.longs[sunday];
            case 1:
                return text.worths[sunday];
            case 2:
                return now.worn[sunday];
            case 3:
                return now.isSold(sunday) ? 1 : 0;
            case 4:
                return now.in[sunday];
            case 5:
                return now.in[sunday] == 0 ? 0 : house.ofSunday(WEARS, text, now, sunday);
            case 6:
                return house.ofSunday(SELLS, text, now, sunday);
            default:
                return NONE;
        }
    }

    /** Promise 7. */
    public int guest(int guest, int what) {
        if (!isGuest(guest)) {
            return NONE;
        }
        switch (what) {
            case 0:
                return text.hour[guest];
            case 1:
                return text.hours[guest];
            case 2:
                return text.fees[guest];
            case 3:
                return now.whereIs(guest);
            case 4:
                return now.rested[guest];
            case 5:
                return now.isDead(guest) ? 1 : 0;
            case 6:
                return house.ofGuestNow(PAYS, text, now, guest);
            case 7:
                return house.ofGuestNow(RESTS, text, now, guest);
            default:
                return NONE;
        }
    }

    /** Promise 8. */
    public int at(int sunday, int hour) {
        if (!isSunday(sunday) || hour < 0 || hour >= text.longs[sunday]) {
            return NONE;
        }
        for (int g = 0; g < text.guests; g++) {
            if (now.isIn(g, sunday) && text.isThere(g, hour)) {
                return g;
            }
        }
        return NOBODY;
    }

    /** Promise 9. */
    public boolean letIn(int guest, int sunday) {
        if (!isGuest(guest) || !isSunday(sunday)) {
            return false;
        }
        if (now.whereIs(guest) != NOBODY || !couldGoIn(guest, sunday, 0)) {
            return false;
        }
        trail.keep(now);
        now.in[sunday] |= 1 << guest;
        return true;
    }

    /** Promise 10. */
    public boolean putOut(int guest) {
        if (!isGuest(guest) || now.whereIs(guest) == NOBODY) {
            return false;
        }
        trail.keep(now);
        now.takeOut(guest);
        return true;
    }

    /** Promise 11. */
    public int sell(int sunday) {
        if (!isSunday(sunday) || now.in[sunday] != 0 || now.isSold(sunday)) {
            return NONE;
        }
        trail.keep(now);
        int money = house.ofSunday(SELLS, text, now, sunday);
        now.sold |= 1 << sunday;
        now.money += money;
        return money;
    }

    /** Promise 12. */
    public boolean air(int sunday) {
        if (!isSunday(sunday) || now.in[sunday] != 0 || now.isSold(sunday) || now.worn[sunday] == 0) {
            return false;
        }
        trail.keep(now);
        now.worn[sunday] = 0;
        if (now.money > 0) {
            now.money--;
        }
        return true;
    }

    /** Promise 13. */
    public int weeks(int n) {
        if (!isWeeks(n)) {
            return NONE;
        }
        if (n > 0) {
            trail.keep(now);
            house.passDeadlyWeeks(text, now, n, text.seed);
        }
        return now.week;
    }

    /** Promise 14. */
    public boolean undo() {
        return trail.takeBack(now);
    }

    /** Promise 15. */
    public int alone(int sunday, int what) {
        if (!isSunday(sunday) || !isOneOfTwo(what)) {
            return NONE;
        }
        planner.valueSets(house, text, now, sunday);
        int who = planner.bestSet(text, sunday);
        return what == 0 ? planner.values[sunday][who] : who;
    }

    /** Promise 16. */
    public int letting(int i) {
        if (i != NONE && !isSunday(i)) {
            return NONE;
        }
        for (int s = 0; s < text.sundays; s++) {
            planner.valueSets(house, text, now, s);
        }
        planner.letAll(text);
        int alive = now.alive(text);
        return i == NONE ? planner.table[text.sundays][alive] : planner.setLetIn(text, alive, i);
    }

    /** Promise 17. */
    public int fewest(int what) {
        if (!isOneOfTwo(what)) {
            return NONE;
        }
        int cost = planner.leastCost(text, now);
        if (cost >= Planner.NO_WAY) {
            return NOBODY;
        }
        return what == 0 ? cost / Planner.A_SUNDAY : cost % Planner.A_SUNDAY;
    }

    /** Promise 18. */
    public int colours() {
        return planner.fewestColours(text, now.alive(text));
    }

    /** Promise 19. */
    public int tangle(int what) {
        if (!isOneOfTwo(what)) {
            return NONE;
        }
        int who = planner.largestTangle(text, now.alive(text));
        return what == 0 ? Integer.bitCount(who) : who;
    }

    /** Promise 20. */
    public int fitting(int guest) {
        return isGuest(guest) ? sundaysFitting(guest) : NONE;
    }

    /** Promise 21. */
    public int row(int sunday, int i) {
        if (!isSunday(sunday)) {
            return NONE;
        }
        for (int g = 0; g < text.guests; g++) {
            if (now.isIn(g, sunday) && earlierOnes(g, sunday) == i) {
                return g;
            }
        }
        return NONE;
    }

    /** Promise 22. */
    public int change(int guest, int other) {
        if (!isGuest(guest) || !isGuest(other)) {
            return NONE;
        }
        int mine = now.whereIs(guest);
        int theirs = now.whereIs(other);
        if (mine == NOBODY || theirs == NOBODY || mine == theirs) {
            return NONE;
        }
        return couldGoIn(guest, theirs, 1 << other) && couldGoIn(other, mine, 1 << guest) ? 1 : 0;
    }

    /** Promise 23. */
    public int payer(int what) {
        if (!isOneOfTwo(what)) {
            return NONE;
        }
        int who = NOBODY;
        int most = NOBODY;
        for (int g = 0; g < text.guests; g++) {
            if (now.whereIs(g) != NOBODY) {
                int pay = house.ofGuestNow(PAYS, text, now, g);
                if (pay > most) {
                    most = pay;
                    who = g;
                }
            }
        }
        return what == 0 ? who : most;
    }

    /** Promise 24. */
    public int idle() {
        int sum = 0;
        for (int s = 0; s < text.sundays; s++) {
            if (!now.isSold(s)) {
                sum += text.longs[s] - text.hoursOf(now.in[s]);
            }
        }
        return sum;
    }

    /** Promise 25. */
    public int used(int sunday, int v) {
        if (!isSunday(sunday) || v < 1 || v > MOST_WORN) {
            return NONE;
        }
        ahead.copyFrom(now);
        for (int n = 0; n <= MOST_WEEKS_AWAITED; n++) {
            if (ahead.worn[sunday] >= v) {
                return n;
            }
            house.passWeek(text, ahead);
        }
        return NOBODY;
    }

    /** Promise 26. */
    public int first(int what) {
        if (!isOneOfTwo(what)) {
            return NONE;
        }
        ahead.copyFrom(now);
        for (int n = 0; n <= MOST_WEEKS_AWAITED; n++) {
            int who = firstWeary();
            if (who != NOBODY) {
                return what == 0 ? n : who;
            }
            house.passWeek(text, ahead);
        }
        return NOBODY;
    }

    /** Promise 27. */
    public int gap(int sunday, int what) {
        if (!isSunday(sunday) || !isOneOfTwo(what)) {
            return NONE;
        }
        long taken = text.spanOf(now.in[sunday]);
        int most = 0;
        int from = NOBODY;
        int run = 0;
        for (int h = 0; h < text.longs[sunday]; h++) {
            run = (taken >>> h & 1L) == 0L ? run + 1 : 0;
            if (run > most) {
                most = run;
                from = h - run + 1;
            }
        }
        return what == 0 ? most : from;
    }

    /** Promise 28. */
    public int room(int guest) {
        if (!isGuest(guest)) {
            return NONE;
        }
        int bits = 0;
        for (int s = 0; s < text.sundays; s++) {
            if (couldGoIn(guest, s, 0)) {
                bits |= 1 << s;
            }
        }
        return bits;
    }

    /** Promise 29. */
    public int price(int sunday, int n) {
        if (!isSunday(sunday) || now.isSold(sunday) || !isWeeks(n)) {
            return NONE;
        }
        ahead.copyFrom(now);
        for (int i = 0; i < n; i++) {
            house.passWeek(text, ahead);
        }
        return house.ofSunday(SELLS, text, ahead, sunday);
    }

    /** Promise 30. */
    public int best(int sunday, int n, int what) {
        if (!isSunday(sunday) || now.isSold(sunday) || !isWeeks(n) || !isOneOfTwo(what)) {
            return NONE;
        }
        ahead.copyFrom(now);
        int when = 0;
        int most = house.ofSunday(SELLS, text, ahead, sunday);
        for (int i = 1; i <= n; i++) {
            house.passWeek(text, ahead);
            int money = house.ofSunday(SELLS, text, ahead, sunday);
            if (money > most) {
                most = money;
                when = i;
            }
        }
        return what == 0 ? when : most;
    }

    /** Promise 31. */
    public int weary(int guest) {
        if (!isGuest(guest)) {
            return NONE;
        }
        ahead.copyFrom(now);
        for (int n = 0; n <= MOST_WEEKS_AWAITED; n++) {
            if (ahead.rested[guest] >= text.death) {
                return n;
            }
            house.passWeek(text, ahead);
        }
        return NOBODY;
    }

    /** Promise 32. */
    public int earned(int n) {
        if (!isWeeks(n)) {
            return NONE;
        }
        ahead.copyFrom(now);
        for (int i = 0; i < n; i++) {
            house.passWeek(text, ahead);
        }
        return ahead.money - now.money;
    }

    /** Promise 33. */
    public int rivals(int guest) {
        return isGuest(guest) ? text.clashes[guest] : NONE;
    }

    /** Promise 34. */
    public int then(int guest, int n, int what) {
        if (!isGuest(guest) || !isWeeks(n) || what < 0 || what > 2) {
            return NONE;
        }
        ahead.copyFrom(now);
        house.passDeadlyWeeks(text, ahead, n, text.seed);
        if (what == 0) {
            return ahead.whereIs(guest);
        }
        if (what == 1) {
            return ahead.rested[guest];
        }
        return ahead.isDead(guest) ? 1 : 0;
    }

    /** Promise 35. */
    public int wornIn(int sunday, int n) {
        if (!isSunday(sunday) || !isWeeks(n)) {
            return NONE;
        }
        ahead.copyFrom(now);
        house.passDeadlyWeeks(text, ahead, n, text.seed);
        return ahead.worn[sunday];
    }

    /** Promise 36. */
    public int year(int guest, int n, int s) {
        if (!isGuest(guest) || !isWeeks(n) || s < 1 || s > MOST_SEEDS) {
            return NONE;
        }
        int alive = 0;
        for (int i = 0; i < s; i++) {
            ahead.copyFrom(now);
            house.passDeadlyWeeks(text, ahead, n, text.seed + i);
            if (!ahead.isDead(guest)) {
                alive++;
            }
        }
        return alive;
    }

    /** Promise 37. */
    public int tell(int hour, boolean there) {
        if (hour < 0 || hour >= DAY || clues.many >= MOST_TOLD) {
            return NONE;
        }
        return clues.add(hour, there);
    }

    /** Promise 38. */
    public int forget() {
        int many = clues.many;
        clues.many = 0;
        return many;
    }

    /** Promise 39. */
    public int whose(int k, int what) {
        if (k < 0 || k > clues.many || !isOneOfTwo(what)) {
            return NONE;
        }
        int who = clues.guestsLeft(text, k);
        return what == 0 ? Integer.bitCount(who) : who;
    }

    /** Promise 40. */
    public int look(int k) {
        if (k < 0 || k > clues.many) {
            return NONE;
        }
        int who = clues.guestsLeft(text, k);
        return who == 0 ? NOBODY : clues.hourToLook(text, who);
    }

    /** Promise 41. */
    public boolean hold(int slot) {
        if (slot < 0 || slot >= MOST_SLOTS) {
            return false;
        }
        slots[slot].copyFrom(now);
        heldSlots |= 1 << slot;
        return true;
    }

    /** Promise 42. */
    public boolean restore(int slot) {
        if (slot < 0 || slot >= MOST_SLOTS || (heldSlots >> slot & 1) == 0) {
            return false;
        }
        now.copyFrom(slots[slot]);
        trail.many = 0;
        return true;
    }

    /** Promise 43. */
    public int count(int what) {
        switch (what) {
            case 0:
                return text.sundays;
            case 1:
                return text.guests;
            case 2:
                return now.week;
            case 3:
                return now.money;
            case 4:
                return now.allIn();
            case 5:
                return now.dead;
            case 6:
                return now.sold;
            case 7:
                return moneyDue();
            case 8:
                return tape.length;
            case 9:
                return trail.many;
            case 10:
                return clues.many;
            case 11:
                return Integer.bitCount(heldSlots);
            case 12:
                return sumOf(now.worn);
            case 13:
                return sumOf(now.rested);
            case 14:
                return clashingPairs();
            case 15:
                return sundaysWithGuests();
            case 16:
                return guestsFittingAny();
            case 17:
                return hoursNotSold();
            case 18:
                return feesOfLiving();
            default:
                return NONE;
        }
    }

    private boolean isSunday(int sunday) {
        return sunday >= 0 && sunday < text.sundays;
    }

    private boolean isGuest(int guest) {
        return guest >= 0 && guest < text.guests;
    }

    private boolean isWeeks(int n) {
        return n >= 0 && n <= MOST_WEEKS;
    }

    private boolean isOneOfTwo(int what) {
        return what == 0 || what == 1;
    }

    /** Whether a guest, were they in no Sunday, could be let in to this one once the guests of 'gone' were out of it. */
    private boolean couldGoIn(int guest, int sunday, int gone) {
        return !now.isDead(guest) && !now.isSold(sunday) && text.isLongEnough(sunday, guest)
            && (text.clashes[guest] & now.in[sunday] & ~gone) == 0;
    }

    private int sundaysFitting(int guest) {
        int bits = 0;
        for (int s = 0; s < text.sundays; s++) {
            if (!now.isSold(s) && text.isLongEnough(s, guest)) {
                bits |= 1 << s;
            }
        }
        return bits;
    }

    private int earlierOnes(int guest, int sunday) {
        int many = 0;
        for (int g = 0; g < text.guests; g++) {
            if (now.isIn(g, sunday) && text.hour[g] < text.hour[guest]) {
                many++;
            }
        }
        return many;
    }

    private int firstWeary() {
        for (int g = 0; g < text.guests; g++) {
            if (!ahead.isDead(g) && ahead.rested[g] >= text.death) {
                return g;
            }
        }
        return NOBODY;
    }

    private int moneyDue() {
        int sum = 0;
        for (int g = 0; g < text.guests; g++) {
            sum += house.ofGuestNow(PAYS, text, now, g);
        }
        return sum;
    }

    private int sumOf(int[] row) {
        int sum = 0;
        for (int i = 0; i < row.length; i++) {
            sum += row[i];
        }
        return sum;
    }

    private int clashingPairs() {
        int sum = 0;
        for (int g = 0; g < text.guests; g++) {
            sum += Integer.bitCount(text.clashes[g]);
        }
        return sum / 2;
    }

    private int sundaysWithGuests() {
        int bits = 0;
        for (int s = 0; s < text.sundays; s++) {
            if (now.in[s] != 0) {
                bits |= 1 << s;
            }
        }
        return bits;
    }

    private int guestsFittingAny() {
        int bits = 0;
        for (int g = 0; g < text.guests; g++) {
            if (sundaysFitting(g) != 0) {
                bits |= 1 << g;
            }
        }
        return bits;
    }

    private int hoursNotSold() {
        int sum = 0;
        for (int s = 0; s < text.sundays; s++) {
            if (!now.isSold(s)) {
                sum += text.longs[s];
            }
        }
        return sum;
    }

    private int feesOfLiving() {
        int sum = 0;
        for (int g = 0; g < text.guests; g++) {
            if (!now.isDead(g)) {
                sum += text.fees[g];
            }
        }
        return sum;
    }

    /** The bytes that have been fed and not read yet. */
    private static final class Tape {
        final byte[] bytes = new byte[MOST_BYTES];
        int length = 0;

        boolean hasRoomFor(int many) {
            return length + many <= MOST_BYTES;
        }

        void addFour(int word) {
            for (int shift = 24; shift >= 0; shift -= 8) {
                if (length < MOST_BYTES) {
                    bytes[length] = (byte) (word >> shift);
                    length++;
                }
            }
        }
    }

    /** The tape cut into tokens, the 401st and an end behind it at most; what is no token ends the row too. */
    private static final class Tokens {
        final int[] kinds = new int[MOST_TOKENS + 2];
        final int[] places = new int[MOST_TOKENS + 2];
        /** An int's number, or a name's letters, five bits each. */
        final long[] values = new long[MOST_TOKENS + 2];
        private final long[] words = new long[WORD_COUNT];
        private int many = 0;

        Tokens() {
            int word = 0;
            for (int i = 0; i < WORDS.length() && word < WORD_COUNT; i++) {
                char sign = WORDS.charAt(i);
                if (sign == ' ') {
                    word++;
                } else {
                    words[word] = words[word] << 5 | (sign - 'a' + 1);
                }
            }
        }

        void cut(Tape tape) {
            many = 0;
            int place = 0;
            for (int i = 0; i <= MOST_TOKENS; i++) {
                place = behindBlanks(tape, place);
                if (place >= tape.length) {
                    break;
                }
                place = cutOne(tape, place);
                if (kinds[many - 1] == NO_TOKEN) {
                    return;
                }
            }
            add(END, tape.length, 0L);
        }

        private int behindBlanks(Tape tape, int from) {
            int place = from;
            while (place < tape.length && isBlank(tape.bytes[place])) {
                place++;
            }
            return place;
        }

        /** Answers the place behind the token. */
        private int cutOne(Tape tape, int place) {
            byte sign = tape.bytes[place];
            if (isLetter(sign)) {
                return cutLetters(tape, place);
            }
            if (isDigit(sign)) {
                return cutDigits(tape, place);
            }
            int which = sign > 0 ? SIGNS.indexOf((char) sign) : -1;
            add(which < 0 ? NO_TOKEN : SEMICOLON + which, place, 0L);
            return place + 1;
        }

        private int cutLetters(Tape tape, int from) {
            int place = from;
            long packed = 0L;
            while (place < tape.length && isLetter(tape.bytes[place])) {
                packed = packed << 5 | (tape.bytes[place] - 'a' + 1);
                place++;
            }
            add(place - from > MOST_LETTERS ? NO_TOKEN : kindOf(packed), from, packed);
            return place;
        }

        private int cutDigits(Tape tape, int from) {
            int place = from;
            int number = 0;
            while (place < tape.length && isDigit(tape.bytes[place])) {
                number = number * 10 + (tape.bytes[place] - '0');
                place++;
            }
            add(place - from > MOST_DIGITS ? NO_TOKEN : INT, from, number);
            return place;
        }

        private int kindOf(long packed) {
            for (int w = 0; w < WORD_COUNT; w++) {
                if (words[w] == packed) {
                    return WORD + w;
                }
            }
            return NAME;
        }

        private void add(int kind, int place, long value) {
            if (many < kinds.length) {
                kinds[many] = kind;
                places[many] = place;
                values[many] = value;
                many++;
            }
        }

        private static boolean isBlank(byte sign) {
            return sign == 9 || sign == 10 || sign == 13 || sign == 32;
        }

        private static boolean isLetter(byte sign) {
            return sign >= 'a' && sign <= 'z';
        }

        private static boolean isDigit(byte sign) {
            return sign >= '0' && sign <= '9';
        }
    }

    /**
     * Reads a tape into a text. Tokens are taken in the order of their places, so the first fault found is the first
     * by its place; faults 3 to 5 are only kept until it is known that there is none of 1 and 2.
     */
    private static final class Reader {
        int fault = 0;
        int faultPlace = NONE;
        private final Tokens tokens = new Tokens();
        private int next = 0;
        private int lateFault = 0;
        private int latePlace = NONE;

        void readTape(Tape tape, Text text) {
            fault = 0;
            lateFault = 0;
            latePlace = NONE;
            next = 0;
            text.begin();
            tokens.cut(tape);
            boolean good = true;
            for (int i = 0; i <= MOST_TOKENS && good && kind() != END; i++) {
                good = readTell(text);
            }
            if (good) {
                fault = lateFault;
                faultPlace = latePlace;
            } else {
                faultPlace = tokens.places[next];
            }
            if (fault == 0) {
                text.findClashes();
            }
        }

        private int kind() {
            return tokens.kinds[next];
        }

        private boolean readTell(Text text) {
            int kind = kind();
            if (kind == WORD_SUNDAY) {
                return readSunday(text);
            }
            if (kind == WORD_GUEST) {
                return readGuest(text);
            }
            if (kind == WORD_FOES) {
                return readFoes(text);
            }
            if (kind >= WORD_PAYS && kind <= WORD_SELLS) {
                return readLaw(text.laws, kind - WORD_PAYS);
            }
            if (kind == WORD_DEATH) {
                boolean good = take(kind) && takeInt(1, 999) && take(SEMICOLON);
                text.death = good ? intBehind(2) : text.death;
                return good;
            }
            if (kind == WORD_SEED) {
                boolean good = take(kind) && takeInt(0, 9999) && take(SEMICOLON);
                text.seed = good ? intBehind(2) : text.seed;
                return good;
            }
            return fail(SYNTAX);
        }

        private boolean readSunday(Text text) {
            if (text.sundays >= MOST_SUNDAYS) {
                return fail(ROOM);
            }
            if (!take(WORD_SUNDAY) || !takeNewName(text) || !takeInt(1, DAY) || !takeInt(0, 99) || !take(SEMICOLON)) {
                return false;
            }
            text.addSunday(tokens.values[next - 4], intBehind(3), intBehind(2));
            return true;
        }

        private boolean readGuest(Text text) {
            if (text.guests >= MOST_GUESTS) {
                return fail(ROOM);
            }
            if (!take(WORD_GUEST) || !takeNewName(text) || !takeInt(0, DAY - 1) || !takeInt(1, 12) || !takeInt(0, 99)
                || !take(SEMICOLON)) {
                return false;
            }
            text.addGuest(tokens.values[next - 5], intBehind(4), intBehind(3), intBehind(2));
            return true;
        }

        private boolean readFoes(Text text) {
            if (text.foes >= MOST_FOES) {
                return fail(ROOM);
            }
            if (!take(WORD_FOES) || !take(NAME) || !take(NAME) || !take(SEMICOLON)) {
                return false;
            }
            int one = text.guestNamed(tokens.values[next - 3]);
            int other = text.guestNamed(tokens.values[next - 2]);
            if (one < 0) {
                keepLate(NAME_FAULT, next - 3);
            } else if (other < 0) {
                keepLate(NAME_FAULT, next - 2);
            } else if (one == other || text.areFoes(one, other)) {
                keepLate(TWICE, next - 2);
            }
            text.addFoes(one, other);
            return true;
        }

        private boolean readLaw(Laws laws, int law) {
            if (!take(WORD_PAYS + law) || !take(EQUALS)) {
                return false;
            }
            laws.startLaw(law);
            for (int ifs = 0; ifs <= MOST_IFS && kind() == WORD_IF; ifs++) {
                if (ifs == MOST_IFS) {
                    return fail(ROOM);
                }
                if (!take(WORD_IF) || !readSum(laws, 0) || !take(LESS) || !readSum(laws, 0) || !take(WORD_THEN)) {
                    return false;
                }
                int test = laws.add(LESS, 0);
                if (!readSum(laws, 0) || !take(WORD_ELSE)) {
                    return false;
                }
                laws.add(END, 0);
                laws.aimBehind(test);
            }
            if (!readSum(laws, 0) || !take(SEMICOLON)) {
                return false;
            }
            laws.add(END, 0);
            return true;
        }

        private boolean readSum(Laws laws, int depth) {
            if (!readProduct(laws, depth)) {
                return false;
            }
            for (int i = 0; i < MOST_TOKENS && (kind() == PLUS || kind() == MINUS); i++) {
                int sign = kind();
                if (!take(sign) || !readProduct(laws, depth)) {
                    return false;
                }
                laws.add(sign, 0);
            }
            return true;
        }

        private boolean readProduct(Laws laws, int depth) {
            if (!readUnit(laws, depth)) {
                return false;
            }
            for (int i = 0; i < MOST_TOKENS && (kind() == TIMES || kind() == OVER); i++) {
                int sign = kind();
                if (!take(sign) || !readUnit(laws, depth)) {
                    return false;
                }
                laws.add(sign, 0);
            }
            return true;
        }

        private boolean readUnit(Laws laws, int depth) {
            int kind = kind();
            if (kind == OPEN) {
                if (depth >= MOST_NESTED) {
                    return fail(ROOM);
                }
                return take(OPEN) && readSum(laws, depth + 1) && take(CLOSE);
            }
            if (kind >= WORD_FEE && kind <= WORD_OTHERS) {
                laws.add(WORD, kind - WORD_FEE);
                return take(kind);
            }
            if (!take(INT)) {
                return false;
            }
            laws.add(INT, intBehind(1));
            return true;
        }

        /** The only way past a token: one of another kind is a fault, and so is the 401st of the right kind. */
        private boolean take(int kind) {
            boolean right = tokens.kinds[next] == kind;
            if (!right || next >= MOST_TOKENS) {
                fault = right ? ROOM : SYNTAX;
                return false;
            }
            next++;
            return true;
        }

        private boolean takeInt(int least, int most) {
            if (!take(INT)) {
                return false;
            }
            int number = intBehind(1);
            if (number < least || number > most) {
                keepLate(WRONG, next - 1);
            }
            return true;
        }

        private boolean takeNewName(Text text) {
            if (!take(NAME)) {
                return false;
            }
            if (text.isNamed(tokens.values[next - 1])) {
                keepLate(TWICE, next - 1);
            }
            return true;
        }

        private int intBehind(int steps) {
            return next < steps ? 0 : (int) tokens.values[next - steps];
        }

        /** Of the token that is next. */
        private boolean fail(int number) {
            fault = number;
            return false;
        }

        private void keepLate(int number, int token) {
            if (lateFault == 0) {
                lateFault = number;
                latePlace = tokens.places[token];
            }
        }
    }

    /**
     * The four laws as rows of steps: values go onto a stack, signs take two from it. Each token makes one step at
     * most, so the row has room for every text, and for the laws that hold if none is told.
     */
    private static final class Laws {
        private static final int MOST_STEPS = MOST_TOKENS + 2 * LAWS;
        /** Two open values at each of seven depths, the other side of a '<', and the value itself. */
        static final int MOST_OPEN = 2 * (MOST_NESTED + 1) + 2;
        private final int[] steps = new int[MOST_STEPS];
        private final int[] values = new int[MOST_STEPS];
        private final int[] starts = new int[LAWS];
        private int many = 0;

        void begin() {
            many = 0;
            addShortLaw(PAYS, WORD, FEE);
            addShortLaw(RESTS, WORD, HOURS);
            addShortLaw(WEARS, INT, 1);
            addShortLaw(SELLS, WORD, WORTH);
        }

        private void addShortLaw(int law, int step, int value) {
            startLaw(law);
            add(step, value);
            add(END, 0);
        }

        void startLaw(int law) {
            starts[law] = many;
        }

        int add(int step, int value) {
            if (many >= MOST_STEPS) {
                return 0;
            }
            steps[many] = step;
            values[many] = value;
            many++;
            return many - 1;
        }

        /** A test that does not hold goes on at the step that comes next. */
        void aimBehind(int test) {
            values[test] = many;
        }

        int answer(int law, int[] vars, int[] stack) {
            int open = 0;
            for (int i = starts[law]; i < many; i++) {
                int step = steps[i];
                if (step == END) {
                    return open < 1 ? 0 : stack[open - 1];
                }
                if (step == INT || step == WORD) {
                    if (open >= MOST_OPEN) {
                        return 0;
                    }
                    stack[open] = step == INT ? values[i] : vars[values[i]];
                    open++;
                } else {
                    if (open < 2) {
                        return 0;
                    }
                    int left = stack[open - 2];
                    int right = stack[open - 1];
                    if (step == LESS) {
                        open -= 2;
                        i = left < right ? i : Math.max(i, values[i] - 1);
                    } else {
                        if (step == OVER && right == 0) {
                            return 0;
                        }
                        open--;
                        stack[open - 1] = reckon(step, left, right);
                    }
                }
            }
            return 0;
        }

        private static int reckon(int sign, int left, int right) {
            switch (sign) {
                case PLUS:
                    return left + right;
                case MINUS:
                    return left - right;
                case TIMES:
                    return left * right;
                default:
                    return right == 0 ? 0 : left / right;
            }
        }
    }

    /** What a text tells. */
    private static final class Text {
        int sundays = 0;
        final int[] longs = new int[MOST_SUNDAYS];
        final int[] worths = new int[MOST_SUNDAYS];
        int guests = 0;
        final int[] hour = new int[MOST_GUESTS];
        final int[] hours = new int[MOST_GUESTS];
        final int[] fees = new int[MOST_GUESTS];
        int foes = 0;
        int death = 100;
        int seed = 0;
        final Laws laws = new Laws();
        /** Of each guest, who clashes with them (bits). */
        final int[] clashes = new int[MOST_GUESTS];
        /** Of each guest, their hours as bits; they may go on beyond the 32nd. */
        private final long[] spans = new long[MOST_GUESTS];
        /** Of each set of guests, whether no two of it clash. */
        final boolean[] peaceful = new boolean[SETS];
        private final int[] foesOf = new int[MOST_GUESTS];
        private final long[] sundayNames = new long[MOST_SUNDAYS];
        private final long[] guestNames = new long[MOST_GUESTS];

        Text() {
            begin();
            findClashes();
        }

        void begin() {
            sundays = 0;
            guests = 0;
            foes = 0;
            death = 100;
            seed = 0;
            laws.begin();
        }

        void addSunday(long name, int howLong, int worth) {
            if (sundays < MOST_SUNDAYS) {
                sundayNames[sundays] = name;
                longs[sundays] = howLong;
                worths[sundays] = worth;
                sundays++;
            }
        }

        void addGuest(long name, int from, int many, int fee) {
            if (guests < MOST_GUESTS) {
                guestNames[guests] = name;
                hour[guests] = from;
                hours[guests] = many;
                fees[guests] = fee;
                foesOf[guests] = 0;
                guests++;
            }
        }

        void addFoes(int one, int other) {
            foes++;
            if (one >= 0 && other >= 0) {
                foesOf[one] |= 1 << other;
                foesOf[other] |= 1 << one;
            }
        }

        boolean areFoes(int one, int other) {
            return (foesOf[one] >> other & 1) == 1;
        }

        boolean isNamed(long name) {
            for (int s = 0; s < sundays; s++) {
                if (sundayNames[s] == name) {
                    return true;
                }
            }
            return guestNamed(name) >= 0;
        }

        int guestNamed(long name) {
            for (int g = 0; g < guests; g++) {
                if (guestNames[g] == name) {
                    return g;
                }
            }
            return NONE;
        }

        void findClashes() {
            for (int g = 0; g < guests; g++) {
                spans[g] = (1L << hours[g]) - 1L << hour[g];
            }
            for (int g = 0; g < guests; g++) {
                clashes[g] = foesOf[g];
                for (int o = 0; o < guests; o++) {
                    if (o != g && (spans[g] & spans[o]) != 0L) {
                        clashes[g] |= 1 << o;
                    }
                }
            }
            for (int set = 0; set < 1 << guests; set++) {
                peaceful[set] = isPeaceful(set);
            }
        }

        private boolean isPeaceful(int set) {
            for (int g = 0; g < guests; g++) {
                if ((set >> g & 1) == 1 && (set & clashes[g]) != 0) {
                    return false;
                }
            }
            return true;
        }

        /** The hours at which somebody of a set is there (bits). */
        long spanOf(int set) {
            long bits = 0L;
            for (int g = 0; g < guests; g++) {
                if ((set >> g & 1) == 1) {
                    bits |= spans[g];
                }
            }
            return bits;
        }

        int hoursOf(int set) {
            return Long.bitCount(spanOf(set));
        }

        boolean isThere(int guest, int when) {
            return when >= hour[guest] && when < hour[guest] + hours[guest];
        }

        boolean isLongEnough(int sunday, int guest) {
            return hour[guest] + hours[guest] <= longs[sunday];
        }
    }

    /** All that goes on: what is held in slots, and what is undone. */
    private static final class State {
        int week = 0;
        int money = 0;
        /** Bits of guests. */
        int dead = 0;
        /** Bits of Sundays. */
        int sold = 0;
        /** Who is in each Sunday (bits). */
        final int[] in = new int[MOST_SUNDAYS];
        final int[] worn = new int[MOST_SUNDAYS];
        final int[] rested = new int[MOST_GUESTS];

        void begin() {
            week = 0;
            money = 0;
            dead = 0;
            sold = 0;
            for (int s = 0; s < MOST_SUNDAYS; s++) {
                in[s] = 0;
                worn[s] = 0;
            }
            for (int g = 0; g < MOST_GUESTS; g++) {
                rested[g] = 0;
            }
        }

        void copyFrom(State other) {
            week = other.week;
            money = other.money;
            dead = other.dead;
            sold = other.sold;
            for (int s = 0; s < MOST_SUNDAYS; s++) {
                in[s] = other.in[s];
                worn[s] = other.worn[s];
            }
            for (int g = 0; g < MOST_GUESTS; g++) {
                rested[g] = other.rested[g];
            }
        }

        boolean isDead(int guest) {
            return (dead >> guest & 1) == 1;
        }

        boolean isSold(int sunday) {
            return (sold >> sunday & 1) == 1;
        }

        boolean isIn(int guest, int sunday) {
            return (in[sunday] >> guest & 1) == 1;
        }

        int whereIs(int guest) {
            for (int s = 0; s < MOST_SUNDAYS; s++) {
                if (isIn(guest, s)) {
                    return s;
                }
            }
            return NOBODY;
        }

        void takeOut(int guest) {
            for (int s = 0; s < MOST_SUNDAYS; s++) {
                in[s] &= ~(1 << guest);
            }
        }

        int allIn() {
            int bits = 0;
            for (int s = 0; s < MOST_SUNDAYS; s++) {
                bits |= in[s];
            }
            return bits;
        }

        int alive(Text text) {
            return (1 << text.guests) - 1 & ~dead;
        }
    }

    /** The states ahead of the last 40 things done, in a ring. */
    private static final class Trail {
        int many = 0;
        private final State[] ring = new State[MOST_UNDONE];
        private int next = 0;

        Trail() {
            for (int i = 0; i < MOST_UNDONE; i++) {
                ring[i] = new State();
            }
        }

        void keep(State state) {
            ring[next].copyFrom(state);
            next = (next + 1) % MOST_UNDONE;
            many = Math.min(MOST_UNDONE, many + 1);
        }

        boolean takeBack(State state) {
            if (many == 0) {
                return false;
            }
            next = (next + MOST_UNDONE - 1) % MOST_UNDONE;
            state.copyFrom(ring[next]);
            many--;
            return true;
        }
    }

    /** What the laws answer of guests and Sundays, and how weeks go by. */
    private static final class House {
        private final int[] vars = new int[VARS];
        private final int[] stack = new int[Laws.MOST_OPEN];

        /** A law of a guest in the Sunday in which they are; in none: 0. */
        int ofGuestNow(int law, Text text, State state, int guest) {
            int sunday = state.whereIs(guest);
            if (sunday == NOBODY) {
                return 0;
            }
            return ofGuest(law, text, state, guest, sunday, Integer.bitCount(state.in[sunday]) - 1);
        }

        int ofGuest(int law, Text text, State state, int guest, int sunday, int others) {
            setSunday(text, state, sunday);
            vars[FEE] = text.fees[guest];
            vars[HOURS] = text.hours[guest];
            vars[HOUR] = text.hour[guest];
            vars[RESTED] = state.rested[guest];
            vars[WHICH] = guest;
            vars[OTHERS] = others;
            return answerHeld(text.laws, law);
        }

        int ofSunday(int law, Text text, State state, int sunday) {
            setSunday(text, state, sunday);
            vars[FEE] = 0;
            vars[HOURS] = text.hoursOf(state.in[sunday]);
            vars[HOUR] = 0;
            vars[RESTED] = 0;
            vars[WHICH] = sunday;
            vars[OTHERS] = Integer.bitCount(state.in[sunday]);
            return answerHeld(text.laws, law);
        }

        private void setSunday(Text text, State state, int sunday) {
            vars[WORN] = state.worn[sunday];
            vars[WORTH] = text.worths[sunday];
            vars[WEEK] = state.week;
        }

        private int answerHeld(Laws laws, int law) {
            return Math.max(0, Math.min(MOST_OF_A_LAW, laws.answer(law, vars, stack)));
        }

        /** A week in which nobody dies. */
        void passWeek(Text text, State state) {
            payAndRest(text, state);
            wear(text, state);
            state.week++;
        }

        void passDeadlyWeeks(Text text, State state, int n, int seed) {
            for (int i = 0; i < n; i++) {
                payAndRest(text, state);
                wear(text, state);
                bury(text, state, seed);
                state.week++;
            }
        }

        /** No law of a guest looks at how rested another is, nor at the money: so each may change as it comes. */
        private void payAndRest(Text text, State state) {
            for (int g = 0; g < text.guests; g++) {
                int sunday = state.whereIs(g);
                if (sunday != NOBODY) {
                    int others = Integer.bitCount(state.in[sunday]) - 1;
                    state.money += ofGuest(PAYS, text, state, g, sunday, others);
                    int more = ofGuest(RESTS, text, state, g, sunday, others);
                    state.rested[g] = Math.min(MOST_RESTED, state.rested[g] + more);
                } else if (!state.isDead(g)) {
                    state.rested[g] = Math.max(0, state.rested[g] - 1);
                }
            }
        }

        /** Comes behind payAndRest, whose laws look at how worn a Sunday was; WEARS itself looks at nobody's rest. */
        private void wear(Text text, State state) {
            for (int s = 0; s < text.sundays; s++) {
                if (state.in[s] != 0) {
                    state.worn[s] = Math.min(MOST_WORN, state.worn[s] + ofSunday(WEARS, text, state, s));
                }
            }
        }

        private void bury(Text text, State state, int seed) {
            for (int g = 0; g < text.guests; g++) {
                int beyond = state.rested[g] - text.death;
                if (beyond >= 0 && state.whereIs(g) != NOBODY && lot(seed, 8 * state.week + g) < beyond + 10) {
                    state.dead |= 1 << g;
                    state.takeOut(g);
                }
            }
        }

        /** LOT 100. */
        private static int lot(int seed, int which) {
            return (stir(stir(seed, 165), which) >>> 1) % 100;
        }

        private static int stir(int h, int it) {
            int stirred = (h ^ it) * 1103515245 + 12345;
            return stirred ^ stirred >>> 15;
        }
    }

    /** Which guests go best, or closest, together: by tables over all sets of guests. */
    private static final class Planner {
        /** In a cost, a Sunday more weighs more than all bits of which ones. */
        static final int A_SUNDAY = 1 << MOST_SUNDAYS;
        static final int NO_WAY = 1 << 20;

        /** Of a Sunday and a set, what the set pays there by itself; NONE if it can't be there. */
        final int[][] values = new int[MOST_SUNDAYS][SETS];
        /** Of the first so many Sundays and a set, the best that can be done with the set in them. */
        final int[][] table = new int[MOST_SUNDAYS + 1][SETS];
        private final int[] pays = new int[MOST_GUESTS];

        void valueSets(House house, Text text, State state, int sunday) {
            int fit = livingFit(text, state, sunday);
            for (int g = 0; g < text.guests; g++) {
                pays[g] = (fit >> g & 1) == 1 ? house.ofGuest(PAYS, text, state, g, sunday, 0) : 0;
            }
            int[] row = values[sunday];
            row[0] = 0;
            for (int set = 1; set < 1 << text.guests; set++) {
                boolean good = (set & ~fit) == 0 && text.peaceful[set];
                // A set that can be there has only such sets within it, so the smaller one's value is there already.
                row[set] = good ? row[set & set - 1] + pays[Integer.numberOfTrailingZeros(set)] : NONE;
            }
        }

        private static int livingFit(Text text, State state, int sunday) {
            int bits = 0;
            for (int g = 0; g < text.guests; g++) {
                if (!state.isDead(g) && !state.isSold(sunday) && text.isLongEnough(sunday, g)) {
                    bits |= 1 << g;
                }
            }
            return bits;
        }

        int bestSet(Text text, int sunday) {
            int[] row = values[sunday];
            int best = 0;
            for (int set = 1; set < 1 << text.guests; set++) {
                if (row[set] > row[best]) {
                    best = set;
                }
            }
            return best;
        }

        void letAll(Text text) {
            for (int set = 0; set < SETS; set++) {
                table[0][set] = 0;
            }
            for (int s = 0; s < text.sundays; s++) {
                for (int set = 0; set < 1 << text.guests; set++) {
                    table[s + 1][set] = mostWith(s, set);
                }
            }
        }

        private int mostWith(int sunday, int set) {
            int most = table[sunday][set];
            for (int part = set; part > 0; part = part - 1 & set) {
                int value = values[sunday][part];
                if (value != NONE) {
                    most = Math.max(most, value + table[sunday][set ^ part]);
                }
            }
            return most;
        }

        /** Goes from the last Sunday down to the wanted one, since the last one's bits are the first to be least. */
        int setLetIn(Text text, int alive, int wanted) {
            int left = alive;
            int part = 0;
            for (int s = text.sundays - 1; s >= wanted; s--) {
                part = leastPart(s, left);
                left ^= part;
            }
            return part;
        }

        private int leastPart(int sunday, int set) {
            for (int part = 0; part <= set; part++) {
                int value = values[sunday][part];
                if ((part & ~set) == 0 && value != NONE
                    && value + table[sunday][set ^ part] == table[sunday + 1][set]) {
                    return part;
                }
            }
            return 0;
        }

        /** The least of: Sundays with guests times A_SUNDAY, and their bits, over all ways to let all who live. */
        int leastCost(Text text, State state) {
            for (int set = 0; set < SETS; set++) {
                table[0][set] = set == 0 ? 0 : NO_WAY;
            }
            for (int s = 0; s < text.sundays; s++) {
                int fit = livingFit(text, state, s);
                for (int set = 0; set < 1 << text.guests; set++) {
                    table[s + 1][set] = leastWith(text, s, set, fit);
                }
            }
            return table[text.sundays][state.alive(text)];
        }

        private int leastWith(Text text, int sunday, int set, int fit) {
            int least = table[sunday][set];
            for (int part = set & fit; part > 0; part = part - 1 & set & fit) {
                if (text.peaceful[part]) {
                    least = Math.min(least, table[sunday][set ^ part] + A_SUNDAY + (1 << sunday));
                }
            }
            return least;
        }

        int fewestColours(Text text, int alive) {
            int[] row = table[0];
            row[0] = 0;
            for (int set = 1; set <= alive; set++) {
                row[set] = MOST_GUESTS;
                for (int part = set; part > 0; part = part - 1 & set) {
                    if (text.peaceful[part]) {
                        row[set] = Math.min(row[set], row[set ^ part] + 1);
                    }
                }
            }
            return row[alive];
        }

        int largestTangle(Text text, int alive) {
            int largest = 0;
            for (int set = 1; set <= alive; set++) {
                if ((set & ~alive) == 0 && Integer.bitCount(set) > Integer.bitCount(largest) && isTangle(text, set)) {
                    largest = set;
                }
            }
            return largest;
        }

        private static boolean isTangle(Text text, int set) {
            for (int g = 0; g < text.guests; g++) {
                if ((set >> g & 1) == 1 && (set & ~text.clashes[g]) != 1 << g) {
                    return false;
                }
            }
            return true;
        }
    }

    /** What is told of the guest unknown. */
    private static final class Clues {
        int many = 0;
        private final int[] hours = new int[MOST_TOLD];
        private final boolean[] there = new boolean[MOST_TOLD];

        int add(int hour, boolean isThere) {
            if (many >= MOST_TOLD) {
                return NONE;
            }
            hours[many] = hour;
            there[many] = isThere;
            many++;
            return many - 1;
        }

        /** Of whom the first k are so (bits). */
        int guestsLeft(Text text, int k) {
            int bits = 0;
            for (int g = 0; g < text.guests; g++) {
                if (agrees(text, g, k)) {
                    bits |= 1 << g;
                }
            }
            return bits;
        }

        private boolean agrees(Text text, int guest, int k) {
            for (int i = 0; i < k && i < MOST_TOLD; i++) {
                if (text.isThere(guest, hours[i]) != there[i]) {
                    return false;
                }
            }
            return true;
        }

        int hourToLook(Text text, int who) {
            int best = 0;
            int fewest = MOST_GUESTS + 1;
            for (int h = 0; h < DAY; h++) {
                int seen = seenAt(text, who, h);
                int left = Math.max(seen, Integer.bitCount(who) - seen);
                if (left < fewest) {
                    fewest = left;
                    best = h;
                }
            }
            return best;
        }

        private static int seenAt(Text text, int who, int hour) {
            int many = 0;
            for (int g = 0; g < text.guests; g++) {
                if ((who >> g & 1) == 1 && text.isThere(g, hour)) {
                    many++;
                }
            }
            return many;
        }
    }
}
