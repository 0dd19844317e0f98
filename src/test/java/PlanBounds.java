import java.util.List;
import java.util.function.IntSupplier;

/** Boundary cases of "Terms", part III, and of promises 15 to 36. */
final class PlanBounds extends Bounds {
    /** Two Sundays, three guests: a 0-1, b 2-4, c 4-5, of whom b and c clash. */
    private static final String HOUSE = "sunday s 6 7;sunday t 5 5;guest a 0 2 3;guest b 2 3 5;guest c 4 2 9;";
    private static final String SEVEN = "guest a 0 1 1;guest b 1 1 1;guest c 2 1 1;guest d 3 1 1;guest e 4 1 1;"
        + "guest f 5 1 1;guest g 6 1 1;";
    /** All seven at one hour. */
    private static final String TANGLED = SEVEN.replaceAll("[0-6] 1 1", "0 1 1");
    private static final String FOUR_SUNDAYS = "sunday h 9 1;sunday i 9 2;sunday j 9 3;sunday k 9 4;";
    private static final int[] NO_WHATS_OF_TWO = {-2, -1, 2, 3, LEAST, MOST};
    private static final int[] NO_SUNDAYS_OF_TWO = {-2, -1, 2, 3, 4, 32, LEAST, MOST};
    private static final int[] NO_GUESTS_OF_THREE = {-2, -1, 3, 6, 7, 32, LEAST, MOST};
    private static final int[] NO_WEEKS = {-2, -1, 41, 42, 100, LEAST, MOST};

    /** Everybody who is in a Sunday for a week is dead behind it. */
    private static final String DEADLY = "rests = 99;death 1;";

    private static LentSundays allDead(String text) {
        LentSundays x = Check.of(text + DEADLY);
        int guests = x.count(1);
        for (int g = 0; g < guests; g++) {
            x.letIn(g, 0);
            x.weeks(1);
        }
        return x;
    }

    // ---- what would be, in general

    void termsIII_nothingHappens() {
        LentSundays x = Check.of(HOUSE + "rests = 40;death 41;wears = 3;seed 5;");
        x.letIn(0, 0);
        x.letIn(1, 0);
        x.letIn(2, 1);
        x.weeks(2);
        x.tell(4, true);
        x.hold(1);
        List<Integer> before = seen(x);
        for (int i = -1; i < 3; i++) {
            x.alone(0, i);
            x.letting(i);
            x.fewest(i);
            x.tangle(i);
            x.payer(i);
            x.first(i);
            x.gap(0, i);
            x.best(0, 40, i);
            x.then(0, 40, i);
            x.whose(1, i);
            x.row(0, i);
        }
        x.colours();
        x.idle();
        for (int g = 0; g < 3; g++) {
            x.fitting(g);
            x.room(g);
            x.rivals(g);
            x.weary(g);
            x.change(g, 2 - g);
            x.year(g, 40, 20);
        }
        x.used(0, 99);
        x.price(0, 40);
        x.earned(40);
        x.wornIn(0, 40);
        x.look(1);
        same("what would be", x, before);
        int in = x.count(4);
        due("what is held", x.restore(1), true);
        due("what is held: the week", x.count(2), 2);
        due("what is held: who is in", x.count(4), in);
    }

    /** Guest d fits no Sunday, so that not all can be let. */
    void termsIII_noAnswerIsAnotherForWhatWasAskedAhead() {
        LentSundays x = Check.of(HOUSE + "guest d 23 5 4;");
        x.letIn(2, 0);
        IntSupplier[] asked = {() -> x.alone(1, 0), () -> x.letting(-1), () -> x.letting(0), () -> x.letting(1),
            () -> x.fewest(0), () -> x.colours(), () -> x.tangle(1), () -> x.used(0, 9), () -> x.first(0), () -> x.year(2, 40, 20),
            () -> x.earned(3)};
        int[] want = {8, 17, 5, 2, -2, 2, 6, 9, 50, 20, 27};
        for (int i = 0; i < asked.length; i++) {
            for (int k = 0; k < asked.length; k++) {
                due(i + " ahead of " + k, asked[i].getAsInt(), want[i]);
                due(k + " behind " + i, asked[k].getAsInt(), want[k]);
            }
        }
    }

    void termsIII_deathsInInNWeeksAndYearAlone() {
        LentSundays x = Check.of(HOUSE + DEADLY + "pays = 1;wears = 2;sells = others;");
        x.letIn(0, 0);
        x.letIn(1, 0);
        due("PRICE", x.price(0, 40), 2);
        due("BEST", x.best(0, 40, 1), 2);
        due("USED", x.used(0, 80), 40);
        due("EARNED", x.earned(40), 80);
        due("IN n WEEKS, dead", x.then(0, 2, 2), 1);
        due("IN n WEEKS, worn", x.wornIn(0, 40), 2);
        due("YEAR", x.year(0, 1, 20), 0);
        LentSundays y = Check.of(HOUSE + "rests = if week < 1 then 99 else 1;death 150;");
        y.letIn(0, 0);
        due("FIRST", y.first(0), 52);
        due("WEARY", y.weary(0), 52);
    }

    void termsIII_theLastSundayAndTheLastGuest() {
        LentSundays x = Check.of(FOUR_SUNDAYS.replace("k 9", "k 24") + SEVEN.replace("6 1 1", "23 1 8") + "death 5;pays = fee;rests = 2;wears = 4;");
        due("FITTING", x.fitting(6), 8);
        due("ROOM", x.room(6), 8);
        due("ALONE", x.alone(3, 0), 14);
        due("ALONE", x.alone(3, 1), 127);
        due("LETTING", x.letting(-1), 14);
        due("LETTING", x.letting(3), 64);
        due("LETTING", x.letting(0), 63);
        due("FEWEST", x.fewest(1), 8);
        due("let in", x.letIn(6, 3), true);
        due("at", x.at(3, 23), 6);
        due("ROW", x.row(3, 0), 6);
        due("PAYER", x.payer(0), 6);
        due("PAYER", x.payer(1), 8);
        due("USED", x.used(3, 9), 3);
        due("FIRST", x.first(1), 6);
        due("WEARY", x.weary(6), 3);
        due("GAP", x.gap(3, 0), 23);
        due("PRICE", x.price(3, 40), 4);
        due("BEST", x.best(3, 40, 1), 4);
        due("IN n WEEKS", x.then(6, 2, 1), 4);
        due("IN n WEEKS", x.wornIn(3, 2), 8);
        due("YEAR", x.year(6, 2, 20), 20);
        due("RIVALS", x.rivals(6), 0);
        due("let in", x.letIn(5, 0), true);
        due("CHANGE", x.change(6, 5), 0);
        due("CHANGE", x.change(5, 6), 0);
        due("put out", x.putOut(6), true);
        due("sold", x.sell(3), 4);
        due("FITTING", x.fitting(6), 0);
    }

    // ---- ALONE, LETTING, FEWEST, COLOURS, TANGLE

    void termsIII_aloneOfNobodyIs0() {
        for (LentSundays x : new LentSundays[] {Check.of("sunday s 9 9;"), Check.of("sunday s 4 9;guest a 4 1 9;guest b 3 2 9;"),
            allDead("sunday s 9 9;guest a 0 2 7;guest b 2 2 7;")}) {
            due("how much", x.alone(0, 0), 0);
            due("who", x.alone(0, 1), 0);
        }
        LentSundays sold = Check.of(HOUSE);
        sold.sell(0);
        due("how much in a sold one", sold.alone(0, 0), 0);
        due("who in a sold one", sold.alone(0, 1), 0);
    }

    void termsIII_aloneOfAllSeven() {
        LentSundays x = Check.of("sunday s 7 9;" + SEVEN + "pays = 100;");
        due("how much", x.alone(0, 0), 693);
        due("who", x.alone(0, 1), 127);
        LentSundays y = Check.of("sunday s 6 9;" + SEVEN + "pays = 100;");
        due("how much", y.alone(0, 0), 594);
        due("who", y.alone(0, 1), 63);
        LentSundays z = Check.of("sunday s 9 9;" + TANGLED + "pays = which + 1;");
        due("how much of those who clash", z.alone(0, 0), 7);
        due("who of those who clash", z.alone(0, 1), 64);
    }

    void termsIII_aloneOfAsMuchTheLeastBits() {
        LentSundays x = Check.of("sunday s 9 9;guest a 0 2 0;guest b 2 1 0;");
        due("who pays nothing is not there", x.alone(0, 1), 0);
        LentSundays y = Check.of("sunday s 9 9;guest a 0 2 5;guest b 0 1 3;guest c 1 1 2;");
        due("the one", y.alone(0, 1), 1);
        LentSundays z = Check.of("sunday s 9 9;guest a 0 1 3;guest b 1 1 2;guest c 0 2 5;");
        due("the two", z.alone(0, 1), 3);
        LentSundays w = Check.of("sunday s 9 9;guest a 0 1 3;guest b 0 1 4;guest c 0 2 4;");
        due("the more", w.alone(0, 1), 2);
    }

    void termsIII_aloneWithOthers0AndAllElseAsNow() {
        LentSundays x = Check.of("sunday s 9 9;sunday t 9 9;guest a 0 1 3;guest b 1 1 2;pays = fee + rested + worn + week + 40 - others * 40;"
            + "rests = 5;wears = 2;");
        x.letIn(0, 1);
        x.letIn(1, 1);
        x.weeks(1);
        due("in the other", x.alone(0, 0), 3 + 5 + 1 + 40 + 2 + 5 + 1 + 40);
        due("in theirs", x.alone(1, 0), 3 + 5 + 2 + 1 + 40 + 2 + 5 + 2 + 1 + 40);
    }

    void promise15_noneForNoSuchOnes() {
        LentSundays x = Check.of(HOUSE);
        for (int bad : NO_SUNDAYS_OF_TWO) {
            due("sunday " + bad, x.alone(bad, 0), -1);
            due("sunday " + bad, x.alone(bad, 1), -1);
        }
        for (int bad : NO_WHATS_OF_TWO) {
            due("what " + bad, x.alone(0, bad), -1);
        }
        due("the first", x.alone(0, 0), 12);
        due("the last", x.alone(1, 1), 3);
        due("no Sundays", new LentSundays().alone(0, 0), -1);
    }

    void termsIII_lettingOfNobodyIs0() {
        due("no Sundays", Check.of(SEVEN).letting(-1), 0);
        due("no guests", Check.of(FOUR_SUNDAYS).letting(-1), 0);
        due("no guests", Check.of(FOUR_SUNDAYS).letting(3), 0);
        LentSundays dead = allDead("sunday s 9 9;guest a 0 2 7;guest b 2 2 7;");
        due("all dead", dead.letting(-1), 0);
        due("all dead", dead.letting(0), 0);
    }

    void termsIII_lettingEachInOneAtMost() {
        LentSundays x = Check.of(FOUR_SUNDAYS + TANGLED + "pays = fee * 90 + which;");
        due("four of seven", x.letting(-1), 4 * 90 + 6 + 5 + 4 + 3);
        due("in the last the least bits", x.letting(3), 8);
        due("then in the one ahead", x.letting(2), 16);
        due("then in the one ahead", x.letting(1), 32);
        due("then in the first", x.letting(0), 64);
        LentSundays y = Check.of(FOUR_SUNDAYS + SEVEN + "pays = 99;");
        due("all seven, once", y.letting(-1), 693);
    }

    void termsIII_lettingOfAlikeOnesTheLeastBitsInTheLastSunday() {
        LentSundays x = Check.of(FOUR_SUNDAYS + SEVEN);
        due("all in the first", x.letting(0), 127);
        for (int s = 1; s < 4; s++) {
            due("none in " + s, x.letting(s), 0);
        }
        LentSundays y = Check.of(FOUR_SUNDAYS + "guest a 0 1 0;guest b 0 1 5;pays = fee;");
        due("who pays nothing is nowhere", y.letting(0), 2);
        LentSundays z = Check.of("sunday h 9 1;sunday i 9 2;sunday j 9 2;guest a 0 1 1;guest b 3 1 1;guest c 0 1 1;pays = worth;");
        due("how much", z.letting(-1), 6);
        due("in the last", z.letting(2), 1);
        due("in the one ahead", z.letting(1), 6);
        due("in the first", z.letting(0), 0);
    }

    void termsIII_lettingNotInASoldOne() {
        LentSundays x = Check.of("sunday s 9 9;sunday t 9 5;guest a 0 1 1;pays = worth;");
        due("in the better", x.letting(-1), 9);
        x.sell(0);
        due("in the other", x.letting(-1), 5);
        due("not here", x.letting(0), 0);
        due("here", x.letting(1), 1);
        x.sell(1);
        due("nowhere", x.letting(-1), 0);
    }

    void promise16_noneForNoSuchSunday() {
        LentSundays x = Check.of(FOUR_SUNDAYS + SEVEN);
        due("NONE is how much", x.letting(LentSundays.NONE), 7);
        for (int bad : numbers(-3, -2, 4, 5, 32, LEAST, MOST)) {
            due("sunday " + bad, x.letting(bad), -1);
        }
        LentSundays none = Check.of(SEVEN);
        due("no Sundays", none.letting(0), -1);
        due("the last of two", Check.of(HOUSE).letting(1), 2);
        due("beyond the last of two", Check.of(HOUSE).letting(2), -1);
    }

    void termsIII_fewestOfNobodyIsInNone() {
        for (LentSundays x : new LentSundays[] {new LentSundays(), Check.of(FOUR_SUNDAYS), allDead("sunday s 9 9;guest a 0 2 7;")}) {
            due("how many", x.fewest(0), 0);
            due("which", x.fewest(1), 0);
        }
    }

    void termsIII_fewestFrom1To4() {
        String[] guests = {"guest a 0 1 1;", "guest b 0 1 1;", "guest c 0 1 1;", "guest d 0 1 1;"};
        String text = FOUR_SUNDAYS;
        for (int n = 1; n <= 4; n++) {
            text += guests[n - 1];
            due("how many for " + n, Check.of(text).fewest(0), n);
            due("which for " + n, Check.of(text).fewest(1), (1 << n) - 1);
        }
        text += "guest e 0 1 1;";
        due("five at one hour", Check.of(text).fewest(0), -2);
        due("seven at one hour", Check.of(FOUR_SUNDAYS + TANGLED).fewest(0), -2);
    }

    void termsIII_fewestOfAllSeven() {
        LentSundays x = Check.of(FOUR_SUNDAYS + SEVEN);
        due("how many", x.fewest(0), 1);
        due("which", x.fewest(1), 1);
        LentSundays y = Check.of(FOUR_SUNDAYS + SEVEN + "foes f g;foes e f;foes e g;foes d e;foes d f;foes d g;");
        due("how many", y.fewest(0), 4);
        due("which", y.fewest(1), 15);
    }

    void termsIII_fewestOfAsManyTheLeastBits() {
        LentSundays x = Check.of("sunday h 4 1;sunday i 9 2;sunday j 9 3;sunday k 9 4;guest a 0 1 1;guest b 8 1 1;");
        due("one", x.fewest(0), 1);
        due("the first that is long enough", x.fewest(1), 2);
        LentSundays y = Check.of("sunday h 4 1;sunday i 9 2;sunday j 9 3;sunday k 9 4;guest a 0 1 1;guest b 8 1 1;guest c 8 1 1;");
        due("two", y.fewest(0), 2);
        due("not the short one", y.fewest(1), 6);
        LentSundays z = Check.of("sunday h 4 1;sunday i 9 2;sunday j 4 3;sunday k 9 4;guest a 0 1 1;guest b 0 1 1;guest c 8 1 1;");
        due("the short one and one more", z.fewest(1), 3);
        z.sell(1);
        due("the short one and the last", z.fewest(1), 9);
    }

    void promise17_minus2IfNotInAll() {
        LentSundays x = Check.of("sunday s 9 9;guest a 0 2 7;guest b 1 2 7;");
        due("how many", x.fewest(0), -2);
        due("which", x.fewest(1), -2);
        due("what 2", x.fewest(2), -1);
        LentSundays y = Check.of("sunday s 9 9;guest a 8 2 7;");
        due("too long", y.fewest(0), -2);
        LentSundays z = Check.of("guest a 8 2 7;");
        due("no Sundays", z.fewest(0), -2);
        LentSundays w = Check.of("sunday s 9 9;guest a 0 2 7;");
        due("one", w.fewest(0), 1);
        w.sell(0);
        due("sold", w.fewest(0), -2);
    }

    void promise17_noneForOthers() {
        LentSundays x = Check.of(HOUSE);
        for (int bad : NO_WHATS_OF_TWO) {
            due("what " + bad, x.fewest(bad), -1);
        }
        due("how many", x.fewest(0), 2);
    }

    void termsIII_coloursFrom0To7() {
        due("nobody", new LentSundays().colours(), 0);
        due("all dead", allDead("sunday s 9 9;guest a 0 2 7;guest b 0 2 7;").colours(), 0);
        due("nobody clashes", Check.of(SEVEN).colours(), 1);
        due("each two clash", Check.of(TANGLED).colours(), 7);
        due("one pair", Check.of(SEVEN + "foes a g;").colours(), 2);
        due("a ring of seven", Check.of(SEVEN + "foes a b;foes b c;foes c d;foes d e;foes e f;foes f g;foes g a;").colours(), 3);
        due("a ring of six", Check.of(SEVEN + "foes a b;foes b c;foes c d;foes d e;foes e f;foes f a;").colours(), 2);
    }

    void promise18_theDeadNeedNone() {
        LentSundays x = Check.of("sunday s 9 9;guest a 0 2 7;guest b 1 2 7;guest c 1 1 7;" + DEADLY);
        for (int left = 3; left > 0; left--) {
            due("with " + left, x.colours(), left);
            x.letIn(3 - left, 0);
            x.weeks(1);
        }
        due("with none", x.colours(), 0);
    }

    void termsIII_tangleFrom0To7() {
        for (LentSundays x : new LentSundays[] {new LentSundays(), allDead("sunday s 9 9;guest a 0 2 7;guest b 0 2 7;")}) {
            due("nobody", x.tangle(0), 0);
            due("nobody", x.tangle(1), 0);
        }
        due("one by themselves", Check.of(SEVEN).tangle(0), 1);
        due("the first", Check.of(SEVEN).tangle(1), 1);
        due("each two clash", Check.of(TANGLED).tangle(0), 7);
        due("all", Check.of(TANGLED).tangle(1), 127);
    }

    void termsIII_tangleOfAsManyTheLeastBits() {
        LentSundays x = Check.of(SEVEN + "foes f g;foes b e;foes c d;");
        due("two", x.tangle(0), 2);
        due("c and d", x.tangle(1), 12);
        LentSundays y = Check.of(SEVEN + "foes a b;foes e f;foes f g;foes e g;");
        due("three", y.tangle(0), 3);
        due("the more", y.tangle(1), 112);
    }

    void promise19_noneForOthers() {
        LentSundays x = Check.of(HOUSE);
        for (int bad : NO_WHATS_OF_TWO) {
            due("what " + bad, x.tangle(bad), -1);
            due("what " + bad + " of nobody", new LentSundays().tangle(bad), -1);
        }
        due("b and c", x.tangle(1), 6);
    }

    // ---- FITTING, ROW, CHANGE, PAYER, IDLE

    void promise20_deadOrNot() {
        LentSundays x = withADeadGuest(HOUSE);
        due("dead", x.fitting(0), 3);
        due("not dead", x.fitting(1), 3);
        due("an hour too long", x.fitting(2), 1);
        due("all four", Check.of(FOUR_SUNDAYS + SEVEN).fitting(6), 15);
    }

    void promise20_noneForNoSuchGuest() {
        LentSundays x = Check.of(HOUSE);
        for (int bad : NO_GUESTS_OF_THREE) {
            due("guest " + bad, x.fitting(bad), -1);
        }
        due("no guests", new LentSundays().fitting(0), -1);
    }

    void termsIII_rowOfSevenByTheirHours() {
        LentSundays x = Check.of("sunday s 9 9;sunday t 9 9;guest a 6 1 1;guest b 4 2 1;guest c 8 1 1;guest d 0 1 1;guest e 7 1 1;"
            + "guest f 1 1 1;guest g 2 2 1;");
        int[] want = {3, 5, 6, 1, 0, 4, 2};
        for (int g = 0; g < 7; g++) {
            x.letIn(g, 1);
        }
        for (int i = 0; i < 7; i++) {
            due("the " + i + "-th", x.row(1, i), want[i]);
        }
        due("the 7-th", x.row(1, 7), -1);
        due("nobody in the other", x.row(0, 0), -1);
    }

    void promise21_noneForNotSoMany() {
        LentSundays x = Check.of(HOUSE);
        due("nobody", x.row(0, 0), -1);
        x.letIn(1, 0);
        due("the first", x.row(0, 0), 1);
        for (int bad : numbers(-2, -1, 1, 2, 7, LEAST, MOST)) {
            due("the " + bad + "-th", x.row(0, bad), -1);
        }
        x.letIn(0, 0);
        due("the first", x.row(0, 0), 0);
        due("the second", x.row(0, 1), 1);
        due("the third", x.row(0, 2), -1);
    }

    void promise21_noneForNoSuchSunday() {
        LentSundays x = Check.of(HOUSE);
        x.letIn(0, 1);
        due("the last", x.row(1, 0), 0);
        for (int bad : NO_SUNDAYS_OF_TWO) {
            due("sunday " + bad, x.row(bad, 0), -1);
        }
    }

    void termsIII_changeWereBothInNone() {
        LentSundays x = Check.of("sunday s 9 9;sunday t 9 9;sunday u 4 9;guest a 0 2 1;guest b 0 2 1;guest c 1 2 1;guest d 3 1 1;guest e 4 1 1;foes a b;");
        x.letIn(0, 0);
        x.letIn(1, 1);
        due("foes at the same hours", x.change(0, 1), 1);
        x.letIn(3, 0);
        due("one who stays is no rival", x.change(1, 0), 1);
        x.letIn(4, 1);
        due("d and e", x.change(3, 4), 1);
        x.putOut(3);
        x.letIn(3, 2);
        due("e is an hour too long", x.change(3, 4), 0);
        due("the other way round", x.change(4, 3), 0);
        due("b and d", x.change(1, 3), 1);
        x.letIn(2, 2);
        due("c is in the way of b", x.change(1, 3), 0);
        due("the other way round", x.change(3, 1), 0);
    }

    void promise22_noneIfNotBothInUnlikeSundays() {
        LentSundays x = Check.of(HOUSE);
        due("both in none", x.change(0, 1), -1);
        x.letIn(0, 0);
        due("one in none", x.change(0, 1), -1);
        due("one in none", x.change(1, 0), -1);
        due("themselves", x.change(0, 0), -1);
        x.letIn(1, 0);
        due("in one", x.change(0, 1), -1);
        x.putOut(1);
        x.letIn(1, 1);
        due("in unlike ones", x.change(0, 1), 1);
        LentSundays d = withADeadGuest(HOUSE);
        d.letIn(1, 0);
        due("dead", d.change(0, 1), -1);
    }

    void promise22_noneForNoSuchOnes() {
        LentSundays x = Check.of(HOUSE);
        x.letIn(0, 0);
        x.letIn(1, 1);
        for (int bad : NO_GUESTS_OF_THREE) {
            for (int good = 0; good < 2; good++) {
                due("guest " + bad, x.change(bad, good), -1);
                due("other " + bad, x.change(good, bad), -1);
            }
        }
    }

    void promise23_minus2IfNobodyIsInASunday() {
        for (LentSundays x : new LentSundays[] {new LentSundays(), Check.of(HOUSE), withADeadGuest(HOUSE)}) {
            due("who", x.payer(0), -2);
            due("how much", x.payer(1), -2);
        }
    }

    void termsIII_payerOfAlikeOnesTheFirst() {
        LentSundays x = Check.of("sunday s 9 9;" + SEVEN + "pays = if which < 3 then 0 else 5;");
        x.letIn(1, 0);
        x.letIn(0, 0);
        due("who pays 0", x.payer(0), 0);
        due("0", x.payer(1), 0);
        x.letIn(6, 0);
        due("who pays 5", x.payer(0), 6);
        x.letIn(4, 0);
        due("the first who pays 5", x.payer(0), 4);
        due("5", x.payer(1), 5);
    }

    void promise23_noneForOthers() {
        LentSundays x = Check.of(HOUSE);
        for (int bad : NO_WHATS_OF_TWO) {
            due("what " + bad + " of nobody", x.payer(bad), -1);
        }
        x.letIn(0, 0);
        for (int bad : NO_WHATS_OF_TWO) {
            due("what " + bad, x.payer(bad), -1);
        }
    }

    void promise24_fromNoneToAllHours() {
        due("no Sundays", new LentSundays().idle(), 0);
        due("four Sundays", Check.of(FOUR_SUNDAYS).idle(), 36);
        LentSundays x = Check.of("sunday s 24 9;sunday t 1 9;guest a 0 12 1;guest b 12 12 1;guest c 0 1 1;");
        due("all", x.idle(), 25);
        x.letIn(0, 0);
        due("without 12", x.idle(), 13);
        x.letIn(1, 0);
        due("without 24", x.idle(), 1);
        x.letIn(2, 1);
        due("none", x.idle(), 0);
        x.putOut(2);
        x.sell(1);
        due("none of a sold one", x.idle(), 0);
        x.putOut(1);
        due("12", x.idle(), 12);
    }

    // ---- USED, FIRST, GAP, ROOM

    private static LentSundays wornFrom(int week) {
        LentSundays x = Check.of(HOUSE + "rests = 0;wears = if week < " + week + " then 0 else 1;");
        x.letIn(0, 0);
        return x;
    }

    void termsIII_usedBehind0To100Weeks() {
        LentSundays x = wornFrom(0);
        for (int v : numbers(1, 2, 98, 99)) {
            due("by " + v, x.used(0, v), v);
        }
        x.weeks(1);
        due("now", x.used(0, 1), 0);
        due("behind one", x.used(0, 2), 1);
        due("behind 99", wornFrom(98).used(0, 1), 99);
        due("behind 100", wornFrom(99).used(0, 1), 100);
        due("not within 100", wornFrom(100).used(0, 1), -2);
        due("by 99 behind 100", wornFrom(1).used(0, 99), 100);
        due("by 99 not within 100", wornFrom(2).used(0, 99), -2);
        due("by 98 behind 100", wornFrom(2).used(0, 98), 100);
    }

    void promise25_minus2IfNot() {
        LentSundays x = wornFrom(0);
        due("nobody is there", x.used(1, 1), -2);
        x.weeks(3);
        x.putOut(0);
        due("not any more", x.used(0, 4), -2);
        due("already", x.used(0, 3), 0);
        x.sell(0);
        due("sold, already", x.used(0, 3), 0);
        due("sold, not any more", x.used(0, 4), -2);
    }

    void promise25_noneForNoSuchOnes() {
        LentSundays x = wornFrom(0);
        for (int bad : NO_SUNDAYS_OF_TWO) {
            due("sunday " + bad, x.used(bad, 1), -1);
        }
        for (int bad : numbers(-1, 0, 100, 101, LEAST, MOST)) {
            due("by " + bad, x.used(0, bad), -1);
        }
        due("by 1", x.used(0, 1), 1);
        due("by 99", x.used(0, 99), 99);
    }

    private static LentSundays restingTo(int death) {
        LentSundays x = Check.of(HOUSE + "rests = 1;death " + death + ";");
        x.letIn(1, 0);
        x.letIn(0, 0);
        return x;
    }

    void termsIII_firstBehind0To100Weeks() {
        due("behind 1", restingTo(1).first(0), 1);
        due("behind 99", restingTo(99).first(0), 99);
        due("behind 100", restingTo(100).first(0), 100);
        due("not within 100", restingTo(101).first(0), -2);
        due("not within 100", restingTo(101).first(1), -2);
        LentSundays now = Check.of(HOUSE + "rests = 12;death 12;seed " + seedOf(10, 0, 1) + ";");
        now.letIn(1, 0);
        now.weeks(1);
        due("now", now.first(0), 0);
        due("now", now.first(1), 1);
        now.putOut(1);
        due("now, in no Sunday", now.first(0), 0);
        now.weeks(1);
        due("not any more", now.first(0), -2);
    }

    void termsIII_firstOfAlikeOnesTheFirst() {
        due("of two", restingTo(50).first(1), 0);
        LentSundays x = Check.of("sunday s 9 9;" + SEVEN + "rests = if which < 3 then 1 else 2;death 20;");
        x.letIn(6, 0);
        x.letIn(1, 0);
        x.letIn(4, 0);
        due("the first of the sooner", x.first(1), 4);
        due("when", x.first(0), 10);
    }

    void termsIII_firstNotTheDead() {
        LentSundays x = withADeadGuest(HOUSE);
        due("nobody", x.first(0), -2);
        x.letIn(1, 0);
        due("another", x.first(0), 1);
        due("another", x.first(1), 1);
        due("no guests", new LentSundays().first(0), -2);
    }

    void promise26_noneForOthers() {
        LentSundays x = restingTo(1);
        for (int bad : NO_WHATS_OF_TWO) {
            due("what " + bad, x.first(bad), -1);
            due("what " + bad + " of nobody", new LentSundays().first(bad), -1);
        }
    }

    void termsIII_gapFromNoneToAllHours() {
        LentSundays x = Check.of("sunday s 24 9;sunday t 1 9;guest a 0 12 1;guest b 12 12 1;guest c 0 1 1;guest d 23 1 1;guest e 11 1 1;");
        due("all 24", x.gap(0, 0), 24);
        due("from 0", x.gap(0, 1), 0);
        due("all of 1", x.gap(1, 0), 1);
        due("from 0", x.gap(1, 1), 0);
        x.letIn(2, 0);
        due("23 to the end", x.gap(0, 0), 23);
        due("from 1", x.gap(0, 1), 1);
        x.letIn(3, 0);
        due("22", x.gap(0, 0), 22);
        x.letIn(4, 0);
        due("11 behind the 10", x.gap(0, 0), 11);
        due("from 12", x.gap(0, 1), 12);
        x.putOut(2);
        due("11 ahead of 11", x.gap(0, 1), 0);
    }

    void termsIII_gapOfAlikeOnesTheFirst() {
        LentSundays x = Check.of("sunday s 11 9;guest a 2 2 1;guest b 6 3 1;");
        x.letIn(0, 0);
        x.letIn(1, 0);
        due("two", x.gap(0, 0), 2);
        due("the first of three", x.gap(0, 1), 0);
        LentSundays y = Check.of("sunday s 11 9;guest a 1 3 1;guest b 6 3 1;");
        y.letIn(0, 0);
        y.letIn(1, 0);
        due("the second, longer than the first", y.gap(0, 1), 4);
    }

    void promise27_minus2IfThereIsNone() {
        LentSundays x = Check.of("sunday s 2 9;guest a 0 1 1;guest b 1 1 1;");
        x.letIn(0, 0);
        due("one hour", x.gap(0, 0), 1);
        due("from 1", x.gap(0, 1), 1);
        x.letIn(1, 0);
        due("none", x.gap(0, 0), 0);
        due("from nowhere", x.gap(0, 1), -2);
    }

    void promise27_noneForNoSuchOnes() {
        LentSundays x = Check.of(HOUSE);
        for (int bad : NO_SUNDAYS_OF_TWO) {
            due("sunday " + bad, x.gap(bad, 0), -1);
            due("sunday " + bad, x.gap(bad, 1), -1);
        }
        for (int bad : NO_WHATS_OF_TWO) {
            due("what " + bad, x.gap(0, bad), -1);
        }
    }

    void termsIII_roomWereTheyInNone() {
        LentSundays x = Check.of(HOUSE + "foes a c;");
        due("a everywhere", x.room(0), 3);
        due("c is an hour too long", x.room(2), 1);
        x.letIn(0, 0);
        due("a in theirs too", x.room(0), 3);
        due("c has a foe there", x.room(2), 0);
        due("b side by side", x.room(1), 3);
        x.sell(1);
        due("not in a sold one", x.room(1), 1);
        due("not in a sold one", x.room(0), 1);
        LentSundays y = Check.of(HOUSE);
        y.letIn(1, 0);
        due("one hour in common", y.room(2), 0);
        due("all four", Check.of(FOUR_SUNDAYS + SEVEN).room(6), 15);
    }

    void promise28_deadIs0() {
        LentSundays x = withADeadGuest(HOUSE);
        due("dead", x.room(0), 0);
        due("not dead", x.room(1), 3);
    }

    void promise28_noneForNoSuchGuest() {
        LentSundays x = Check.of(HOUSE);
        for (int bad : NO_GUESTS_OF_THREE) {
            due("guest " + bad, x.room(bad), -1);
        }
    }

    // ---- PRICE, BEST, WEARY, EARNED, RIVALS

    void termsIII_priceIn0To40Weeks() {
        LentSundays x = Check.of(HOUSE + "rests = 0;sells = week + worn;");
        for (int n : numbers(0, 1, 39, 40)) {
            due("in " + n, x.price(0, n), n);
        }
        x.letIn(0, 0);
        x.weeks(1);
        for (int n : numbers(0, 1, 39, 40)) {
            due("with a guest, in " + n, x.price(0, n), 2 + 2 * n);
            due("without, in " + n, x.price(1, n), 1 + n);
        }
    }

    void promise29_noneForNoSuchOnes() {
        LentSundays x = Check.of(HOUSE);
        for (int bad : NO_SUNDAYS_OF_TWO) {
            due("sunday " + bad, x.price(bad, 0), -1);
        }
        for (int bad : NO_WEEKS) {
            due("n " + bad, x.price(0, bad), -1);
        }
    }

    void promise29_noneIfSold() {
        LentSundays x = Check.of(HOUSE);
        due("not sold", x.price(1, 0), 5);
        x.sell(1);
        due("sold", x.price(1, 0), -1);
        due("sold", x.price(1, 40), -1);
        due("the other", x.price(0, 0), 7);
    }

    void termsIII_bestBehind0ToNWeeks() {
        LentSundays x = Check.of(HOUSE + "sells = if week < 40 then 5 else 6;");
        due("behind 40 of 40", x.best(0, 40, 0), 40);
        due("for", x.best(0, 40, 1), 6);
        due("behind 0 of 39", x.best(0, 39, 0), 0);
        due("for", x.best(0, 39, 1), 5);
        due("behind 0 of 0", x.best(0, 0, 0), 0);
        due("for", x.best(0, 0, 1), 5);
        LentSundays y = Check.of(HOUSE + "sells = 50 - week;");
        due("now", y.best(0, 40, 0), 0);
        due("for", y.best(0, 40, 1), 50);
        LentSundays z = Check.of(HOUSE + "sells = week;");
        due("behind 1 of 1", z.best(0, 1, 0), 1);
    }

    void termsIII_bestOfAlikeOnesTheFirst() {
        due("all alike", Check.of(HOUSE).best(0, 40, 0), 0);
        due("all 0", Check.of(HOUSE + "sells = 0;").best(0, 40, 0), 0);
        due("alike from 3 on", Check.of(HOUSE + "sells = if week < 3 then 8 else 9;").best(0, 40, 0), 3);
    }

    void promise30_noneForNoSuchOnes() {
        LentSundays x = Check.of(HOUSE);
        for (int bad : NO_SUNDAYS_OF_TWO) {
            due("sunday " + bad, x.best(bad, 0, 0), -1);
        }
        for (int bad : NO_WEEKS) {
            due("n " + bad, x.best(0, bad, 0), -1);
            due("n " + bad, x.best(0, bad, 1), -1);
        }
        for (int bad : NO_WHATS_OF_TWO) {
            due("what " + bad, x.best(0, 0, bad), -1);
        }
    }

    void promise30_noneIfSold() {
        LentSundays x = Check.of(HOUSE);
        x.sell(1);
        due("sold", x.best(1, 0, 0), -1);
        due("sold", x.best(1, 40, 1), -1);
        due("the other", x.best(0, 0, 1), 7);
    }

    void termsIII_wearyBehind0To100Weeks() {
        due("behind 1", restingTo(1).weary(0), 1);
        due("behind 99", restingTo(99).weary(0), 99);
        due("behind 100", restingTo(100).weary(0), 100);
        due("not within 100", restingTo(101).weary(0), -2);
    }

    void promise31_0IsNowAndMinus2IsNot() {
        LentSundays x = Check.of(HOUSE + "rests = 12;death 12;seed " + seedOf(10, 0, 1) + ";");
        due("in no Sunday", x.weary(1), -2);
        x.letIn(1, 0);
        due("behind 1", x.weary(1), 1);
        x.weeks(1);
        due("now", x.weary(1), 0);
        x.putOut(1);
        due("now, in no Sunday", x.weary(1), 0);
        x.weeks(1);
        due("not any more", x.weary(1), -2);
        due("dead", withADeadGuest(HOUSE).weary(0), 0);
    }

    void promise31_noneForNoSuchGuest() {
        LentSundays x = restingTo(1);
        for (int bad : NO_GUESTS_OF_THREE) {
            due("guest " + bad, x.weary(bad), -1);
        }
    }

    void termsIII_earnedIn0To40Weeks() {
        LentSundays x = Check.of(HOUSE + "rests = 0;pays = week + 1;");
        due("nobody", x.earned(40), 0);
        x.letIn(0, 0);
        for (int n : numbers(0, 1, 39, 40)) {
            due("in " + n, x.earned(n), n * (n + 1) / 2);
        }
        x.weeks(2);
        due("without what is earned already", x.earned(0), 0);
        due("in 1", x.earned(1), 3);
    }

    void termsIII_earnedMost() {
        LentSundays x = Check.of("sunday s 7 9;" + SEVEN + "pays = 99;");
        for (int g = 0; g < 7; g++) {
            x.letIn(g, 0);
        }
        due("in 40", x.earned(40), 40 * 693);
    }

    void promise32_noneForNoSuchN() {
        LentSundays x = restingTo(1);
        for (int bad : NO_WEEKS) {
            due("n " + bad, x.earned(bad), -1);
            due("n " + bad + ", nobody", new LentSundays().earned(bad), -1);
        }
        due("n 40, nobody", new LentSundays().earned(40), 0);
    }

    void promise33_fromNobodyToAllOthers() {
        for (int g = 0; g < 7; g++) {
            due("nobody", Check.of(SEVEN).rivals(g), 0);
            due("all others", Check.of(TANGLED).rivals(g), 127 - (1 << g));
        }
    }

    void promise33_noneForNoSuchGuest() {
        LentSundays x = Check.of(HOUSE);
        for (int bad : NO_GUESTS_OF_THREE) {
            due("guest " + bad, x.rivals(bad), -1);
        }
        due("the last", x.rivals(2), 2);
    }

    // ---- IN n WEEKS, YEAR

    private static LentSundays perilous(int seed) {
        LentSundays x = Check.of("sunday s 9 50;" + SEVEN + "death 9;rests = which + 1;wears = others;seed " + seed + ";");
        for (int g = 0; g < 7; g++) {
            x.letIn(g, 0);
        }
        return x;
    }

    void termsIII_inNWeeksIsAsAfterSoMany() {
        LentSundays x = perilous(77);
        for (int n : numbers(0, 1, 2, 7, 20, 39, 40)) {
            LentSundays y = perilous(77);
            y.weeks(n);
            due("worn", x.wornIn(0, n), y.sunday(0, 2));
            for (int g = 0; g < 7; g++) {
                due("where", x.then(g, n, 0), y.guest(g, 3));
                due("rested", x.then(g, n, 1), y.guest(g, 4));
                due("dead", x.then(g, n, 2), y.guest(g, 5));
            }
        }
    }

    void promise34_noneForNoSuchOnes() {
        LentSundays x = Check.of(HOUSE);
        for (int bad : NO_GUESTS_OF_THREE) {
            due("guest " + bad, x.then(bad, 0, 0), -1);
        }
        for (int bad : NO_WEEKS) {
            due("n " + bad, x.then(0, bad, 0), -1);
        }
        for (int bad : numbers(-2, -1, 3, 4, LEAST, MOST)) {
            due("what " + bad, x.then(0, 0, bad), -1);
        }
    }

    void promise34_minus2InNoSunday() {
        LentSundays x = Check.of(HOUSE + DEADLY);
        due("never in", x.then(0, 0, 0), -2);
        due("never in", x.then(0, 40, 0), -2);
        x.letIn(0, 1);
        due("now", x.then(0, 0, 0), 1);
        due("not dead now", x.then(0, 0, 2), 0);
        due("dead then", x.then(0, 1, 0), -2);
        due("dead then", x.then(0, 1, 2), 1);
        due("as rested as they died", x.then(0, 40, 1), 99);
    }

    void promise35_noneForNoSuchOnes() {
        LentSundays x = Check.of(HOUSE);
        for (int bad : NO_SUNDAYS_OF_TWO) {
            due("sunday " + bad, x.wornIn(bad, 0), -1);
        }
        for (int bad : NO_WEEKS) {
            due("n " + bad, x.wornIn(0, bad), -1);
        }
    }

    void promise35_from0To99() {
        LentSundays x = Check.of(HOUSE + "rests = 0;wears = 3;");
        x.letIn(0, 0);
        due("in 0", x.wornIn(0, 0), 0);
        due("in 1", x.wornIn(0, 1), 3);
        due("in 33", x.wornIn(0, 33), 99);
        due("in 34", x.wornIn(0, 34), 99);
        due("in 40", x.wornIn(0, 40), 99);
        due("without guests", x.wornIn(1, 40), 0);
    }

    void termsIII_yearBy1To20Seeds() {
        LentSundays x = perilous(1000);
        for (int n : numbers(0, 3, 40)) {
            int alive = 0;
            for (int s = 1; s <= 20; s++) {
                alive += 1 - perilous(999 + s).then(2, n, 2);
                due("in " + n + " by " + s, x.year(2, n, s), alive);
            }
        }
    }

    /** Rested by DEATH in each week, one is alive if no lot was below 10. */
    void termsIII_yearsSeedsGoOnFromTheTexts() {
        LentSundays x = Check.of(HOUSE + "death 1;rests = if rested < 1 then 1 else 0;seed 9999;");
        x.letIn(0, 0);
        for (int n : numbers(1, 5, 10)) {
            int alive = 0;
            for (int s = 1; s <= 20; s++) {
                boolean dies = false;
                for (int week = 0; week < n; week++) {
                    dies |= lot(9998 + s, 8 * week) < 10;
                }
                alive += dies ? 0 : 1;
                due("in " + n + " by " + s, x.year(0, n, s), alive);
            }
        }
    }

    void termsIII_yearOfTheDeadAndOfOneInNoSunday() {
        LentSundays x = withADeadGuest(HOUSE);
        due("dead", x.year(0, 0, 20), 0);
        due("dead", x.year(0, 40, 1), 0);
        due("in no Sunday", x.year(1, 40, 20), 20);
        x.letIn(1, 0);
        due("in 0 weeks", x.year(1, 0, 20), 20);
        due("in 1 week", x.year(1, 1, 20), 0);
    }

    void promise36_noneForNoSuchOnes() {
        LentSundays x = Check.of(HOUSE);
        for (int bad : NO_GUESTS_OF_THREE) {
            due("guest " + bad, x.year(bad, 0, 1), -1);
        }
        for (int bad : NO_WEEKS) {
            due("n " + bad, x.year(0, bad, 1), -1);
        }
        for (int bad : numbers(-2, -1, 0, 21, 22, LEAST, MOST)) {
            due("s " + bad, x.year(0, 0, bad), -1);
        }
        due("1", x.year(0, 0, 1), 1);
        due("20", x.year(0, 0, 20), 20);
    }
}
