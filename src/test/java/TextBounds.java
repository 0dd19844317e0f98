import java.util.ArrayList;
import java.util.List;

/** Boundary cases of "Terms", part I, and of promises 2 to 5. */
final class TextBounds extends Bounds {
    private static final List<String> VARS = List.of("fee", "hours", "hour", "rested", "worn", "worth", "week", "which",
        "others");
    private static final List<String> TELLS = List.of("sunday", "guest", "foes", "pays", "rests", "wears", "sells",
        "death", "seed");
    private static final String[] LAWS = {"pays", "rests", "wears", "sells"};
    private static final String SEVEN = "guest a 0 1 1;guest b 1 1 1;guest c 2 1 1;guest d 3 1 1;guest e 4 1 1;"
        + "guest f 5 1 1;guest g 6 1 1;";
    private static final String EIGHT_FOES = "foes a b;foes a c;foes a d;foes a e;foes a f;foes a g;foes b c;foes b d;";
    private static final String FOUR_SUNDAYS = "sunday h 1 1;sunday i 2 2;sunday j 3 3;sunday k 4 4;";
    private static final String FOUR_IFS = "if 1<2 then 3 else if 1<2 then 3 else if 1<2 then 3 else if 1<2 then 3 else ";

    private static List<String> words() {
        List<String> words = new ArrayList<>(TELLS);
        words.addAll(List.of("if", "then", "else"));
        words.addAll(VARS);
        return words;
    }

    private static boolean isBlank(char sign) {
        return sign == 9 || sign == 10 || sign == 13 || sign == 32;
    }

    // ---- tokens

    void termsI_aTextHas2000BytesAtMost() {
        good(" ".repeat(1993) + "seed 1;");
        fault(" ".repeat(1994) + "seed 1", 1, 2000);
        fault(" ".repeat(1999) + ";", 1, 1999);
    }

    void termsI_namesHave8LettersAtMost() {
        good("sunday a 1 1;guest b 1 1 1;");
        good("sunday abcdefgh 1 1;guest zyxwvuts 1 1 1;guest b 2 1 1;foes zyxwvuts b;");
        faultAt("sunday !abcdefghi 1 1;", 1);
        faultAt("guest !abcdefghi 1 1 1;", 1);
        faultAt("foes !abcdefghi b;", 1);
        faultAt("foes b !abcdefghi;", 1);
        faultAt("sunday !" + "a".repeat(1993), 1);
        faultAt("!sundaysun s 1 1;", 1);
    }

    void termsI_everyLetterOfANameCounts() {
        good("sunday abcdefgh 1 1;guest abcdefgi 1 1 1;guest bbcdefgh 1 1 1;guest abcdefg 1 1 1;guest bcdefgh 1 1 1;");
        good("sunday aaaaaaaa 1 1;guest aaaaaaa 1 1 1;guest aaaaaab 1 1 1;guest a 1 1 1;");
        faultAt("sunday abcdefgh 1 1;guest !abcdefgh 1 1 1;", 3);
        faultAt("sunday zzzzzzzz 1 1;guest !zzzzzzzz 1 1 1;", 3);
    }

    void termsI_namesAreOfLettersAToZ() {
        good("sunday a 1 1;sunday z 1 1;sunday az 1 1;");
        for (char other : "`{@[AZ_\u00e1".toCharArray()) {
            faultAt("sunday !" + other + " 1 1;", 1);
            faultAt("sunday a!" + other + " 1 1;", 1);
        }
    }

    void termsI_noWordInQuotesIsAName() {
        for (String word : words()) {
            faultAt("sunday !" + word + " 1 1;", 1);
            faultAt("guest !" + word + " 1 1 1;", 1);
            faultAt("foes !" + word + " a;", 1);
            faultAt("foes a !" + word + ";", 1);
        }
    }

    void termsI_aWordWithALetterMoreOrLessIsAName() {
        for (String word : words()) {
            good("guest " + word + "x 1 1 1;");
            good("guest x" + word + " 1 1 1;");
            good("guest " + word.substring(1) + " 1 1 1;");
            if (!word.equals("hours")) {
                good("guest " + word.substring(0, word.length() - 1) + " 1 1 1;");
            }
        }
    }

    void termsI_intsHave1To4Digits() {
        good("seed 0;seed 9;seed 0000;seed 9999;death 1;death 0001;pays = 0;pays = 9999;");
        good("sunday s 0001 0001;guest g 0001 0001 0001;");
        faultAt("seed !00000;", 1);
        faultAt("seed !10000;", 1);
        faultAt("seed !4294967297;", 1);
        faultAt("death !00001;", 1);
        faultAt("pays = !00001;", 1);
        faultAt("sunday s !00001 1;", 1);
        faultAt("sunday s 1 !00001;", 1);
        faultAt("guest g !00001 1 1;", 1);
        faultAt("guest g 1 !00001 1;", 1);
        faultAt("guest g 1 1 !00001;", 1);
    }

    void termsI_digitsAre0To9() {
        for (char digit = '0'; digit <= '9'; digit++) {
            good("seed " + digit + ";");
        }
        faultAt("seed !/;", 1);
        faultAt("seed !:;", 1);
        faultAt("seed 1!/;", 1);
        faultAt("seed 1!:;", 1);
    }

    void termsI_blanksAre9And10And13And32() {
        for (char sign = 0; sign < 256; sign++) {
            if (isBlank(sign)) {
                good("" + sign);
                good(sign + "seed" + sign + "1" + sign + ";" + sign);
            } else {
                fault("" + sign, 1, 0);
            }
        }
    }

    /** What may stand behind "seed 1" is a blank, a digit and a semicolon. */
    void termsI_allElseIsNoToken() {
        for (char sign = 0; sign < 256; sign++) {
            if (sign == ';') {
                good("seed 1;");
            } else if (isBlank(sign) || sign >= '0' && sign <= '9') {
                good("seed 1" + sign + ";");
            } else {
                fault("seed 1" + sign + ";", 1, 6);
            }
        }
    }

    void termsI_tokensAreTheLongestThatCanBe() {
        good("seed1;");
        good("sunday s1 2;guest g12 3 4;");
        faultAt("!seeda 1;", 1);
        faultAt("seed 1 !2;", 1);
        faultAt("pays=hour !s;", 1);
        faultAt("pays=!hourss;", 1);
        LentSundays x = Check.of("sunday s 24 0;guest g 5 2 9;pays=hours;rests=hour;");
        x.letIn(0, 0);
        due("hours", x.guest(0, 6), 2);
        due("hour", x.guest(0, 7), 5);
    }

    // ---- which tokens a text goes on with

    /** Behind a beginning of a text, every token: those that are not told here are faults, at the token. */
    private void goesOnWith(String beginning, String... right) {
        List<String> allowed = List.of(right);
        List<String> all = new ArrayList<>(words());
        all.addAll(List.of("x", "1", ";", "=", "+", "-", "*", "/", "<", "(", ")", ".", "A", "abcdefghi", "12345"));
        for (String token : all) {
            String text = beginning + " " + token;
            if (!allowed.contains(token)) {
                fault(text, 1, beginning.length() + 1);
            } else if (token.equals(";")) {
                good(text);
            } else {
                fault(text, 1, text.length());
            }
        }
    }

    private static String[] with(List<String> some, String... more) {
        List<String> all = new ArrayList<>(some);
        all.addAll(List.of(more));
        return all.toArray(new String[0]);
    }

    void termsI_syntaxOfTells() {
        goesOnWith("", with(TELLS));
        goesOnWith("seed 1;", with(TELLS));
        goesOnWith("sunday", "x");
        goesOnWith("sunday s", "1");
        goesOnWith("sunday s 1", "1");
        goesOnWith("sunday s 1 1", ";");
        goesOnWith("guest", "x");
        goesOnWith("guest g", "1");
        goesOnWith("guest g 1", "1");
        goesOnWith("guest g 1 1", "1");
        goesOnWith("guest g 1 1 1", ";");
        goesOnWith(SEVEN + "foes", "x");
        goesOnWith(SEVEN + "foes a", "x");
        goesOnWith(SEVEN + "foes a b", ";");
        goesOnWith("death", "1");
        goesOnWith("death 1", ";");
        goesOnWith("seed", "1");
        goesOnWith("seed 1", ";");
    }

    void termsI_syntaxOfLaws() {
        String[] unit = with(VARS, "1", "(");
        String[] unitOrIf = with(VARS, "1", "(", "if");
        for (String law : LAWS) {
            goesOnWith(law, "=");
            goesOnWith(law + " =", unitOrIf);
            goesOnWith(law + " = 1", "+", "-", "*", "/", ";");
            goesOnWith(law + " = week", "+", "-", "*", "/", ";");
            goesOnWith(law + " = if 1 < 2 then 3 else", unitOrIf);
        }
        for (String sign : new String[] {"+", "-", "*", "/", "("}) {
            goesOnWith("pays = 1 + 1 * " + (sign.equals("(") ? "(" : "1 " + sign), unit);
        }
        goesOnWith("pays = (1", "+", "-", "*", "/", ")");
        goesOnWith("pays = (1)", "+", "-", "*", "/", ";");
        goesOnWith("pays = ((1)", "+", "-", "*", "/", ")");
        goesOnWith("pays = if", unit);
        goesOnWith("pays = if 1", "+", "-", "*", "/", "<");
        goesOnWith("pays = if 1 <", unit);
        goesOnWith("pays = if 1 < 2", "+", "-", "*", "/", "then");
        goesOnWith("pays = if 1 < 2 then", unit);
        goesOnWith("pays = if 1 < 2 then 3", "+", "-", "*", "/", "else");
        goesOnWith("pays = if 1 < 2 then 3 else 4", "+", "-", "*", "/", ";");
    }

    void termsI_aTextMayHaveNoTell() {
        good("");
        good(" ");
        good("\t\n\r ");
    }

    void termsI_theTextsEndIsItsLength() {
        fault("seed", 1, 4);
        fault("seed ", 1, 5);
        fault("seed 1", 1, 6);
        fault("seed 1\n\n\n", 1, 9);
        fault("seed 1; sunday", 1, 14);
        fault("pays = (1 ", 1, 10);
    }

    // ---- how many, and the numbers

    void termsI_sundays4AtMost() {
        due("none", Check.of("").count(0), 0);
        due("one", Check.of("sunday h 1 1;").count(0), 1);
        due("four", Check.of(FOUR_SUNDAYS).count(0), 4);
        due("four among others", Check.of(SEVEN + FOUR_SUNDAYS + EIGHT_FOES).count(0), 4);
        faultAt(FOUR_SUNDAYS + "!sunday l 5 5;", 2);
        faultAt(FOUR_SUNDAYS + " seed 1; !sunday", 2);
        faultAt(FOUR_SUNDAYS + "!sunday sunday 5 5;", 2);
    }

    void termsI_guests7AtMost() {
        due("none", Check.of("").count(1), 0);
        due("one", Check.of("guest a 0 1 1;").count(1), 1);
        due("seven", Check.of(SEVEN).count(1), 7);
        faultAt(SEVEN + "!guest h 7 1 1;", 2);
        faultAt(SEVEN + FOUR_SUNDAYS + "!guest l", 2);
    }

    void termsI_foes8AtMost() {
        due("none", Check.of(SEVEN).count(14), 0);
        due("eight", Check.of(SEVEN + EIGHT_FOES).count(14), 8);
        faultAt(SEVEN + EIGHT_FOES + "!foes b e;", 2);
        faultAt(SEVEN + EIGHT_FOES + "!foes a b;", 2);
        faultAt(SEVEN + EIGHT_FOES + "seed 1;!foes x", 2);
    }

    void termsI_lawsAndDeathAndSeedMayBeToldManyTimes() {
        good("pays=1;rests=1;wears=1;sells=1;death 1;seed 1;".repeat(17));
    }

    void termsI_aSundayIsLong1To24() {
        faultAt("sunday s !0 5;", 5);
        due("1", Check.of("sunday s 1 5;").sunday(0, 0), 1);
        due("24", Check.of("sunday s 24 5;").sunday(0, 0), 24);
        faultAt("sunday s !25 5;", 5);
        faultAt("sunday s !9999 5;", 5);
    }

    void termsI_aSundayIsWorth0To99() {
        due("0", Check.of("sunday s 5 0;").sunday(0, 1), 0);
        due("99", Check.of("sunday s 5 99;").sunday(0, 1), 99);
        faultAt("sunday s 5 !100;", 5);
        faultAt("sunday s 5 !9999;", 5);
    }

    void termsI_aGuestsHourIs0To23() {
        due("0", Check.of("guest g 0 1 1;").guest(0, 0), 0);
        due("23", Check.of("guest g 23 1 1;").guest(0, 0), 23);
        faultAt("guest g !24 1 1;", 5);
        faultAt("guest g !9999 1 1;", 5);
    }

    void termsI_aGuestsHoursAre1To12() {
        faultAt("guest g 0 !0 1;", 5);
        due("1", Check.of("guest g 0 1 1;").guest(0, 1), 1);
        due("12", Check.of("guest g 23 12 1;").guest(0, 1), 12);
        faultAt("guest g 0 !13 1;", 5);
        faultAt("guest g 0 !9999 1;", 5);
    }

    void termsI_aGuestsFeeIs0To99() {
        due("0", Check.of("guest g 0 1 0;").guest(0, 2), 0);
        due("99", Check.of("guest g 0 1 99;").guest(0, 2), 99);
        faultAt("guest g 0 1 !100;", 5);
        faultAt("guest g 0 1 !9999;", 5);
    }

    void termsI_sundaysAndGuestsAreNumberedEachFrom0() {
        LentSundays x = Check.of("guest a 0 1 10;sunday h 1 20;guest b 1 1 11;sunday i 2 21;sunday j 3 22;guest c 2 1 12;"
            + "guest d 3 1 13;guest e 4 1 14;guest f 5 1 15;guest g 6 1 16;sunday k 4 23;");
        for (int s = 0; s < 4; s++) {
            due("sunday " + s, x.sunday(s, 1), 20 + s);
        }
        for (int g = 0; g < 7; g++) {
            due("guest " + g, x.guest(g, 2), 10 + g);
        }
    }

    /** Rests are 1 a week, so one is weary behind as many weeks as DEATH tells. */
    private static int deathOf(String told) {
        LentSundays x = Check.of("sunday s 9 9;guest g 0 1 0;rests = 1;" + told);
        x.letIn(0, 0);
        return x.weary(0);
    }

    void termsI_deathIs1To999() {
        faultAt("death !0;", 5);
        due("1", deathOf("death 1;"), 1);
        good("death 999;");
        faultAt("death !1000;", 5);
        faultAt("death !9999;", 5);
        LentSundays x = Check.of("sunday s 9 9;guest g 0 1 0;death 999;rests = if week < 10 then 99 else 1;");
        x.letIn(0, 0);
        due("999", x.weary(0), 19);
    }

    void termsI_deathIs100IfNotTold() {
        due("weary by 1", deathOf(""), 100);
    }

    void termsI_theLastDeathHolds() {
        due("of three", deathOf("death 5;death 60;death 7;"), 7);
        due("of two", deathOf("death 5;death 60;"), 60);
    }

    /** In which week a guest dies who is always rested by DEATH. */
    private static int weekOfDeath(String told) {
        LentSundays x = Check.of("sunday s 9 9;guest g 0 1 0;death 1;rests = if rested < 1 then 1 else 0;" + told);
        x.letIn(0, 0);
        int week = 0;
        while (week < 200 && x.count(5) == 0) {
            week = x.weeks(1);
        }
        return week - 1;
    }

    private static int weekByLot(int seed) {
        int week = 0;
        while (lot(seed, 8 * week) >= 10) {
            week++;
        }
        return week;
    }

    void termsI_seedIs0To9999() {
        for (int seed : numbers(0, 1, 2, 5000, 9998, 9999)) {
            due("dies by seed " + seed, weekOfDeath("seed " + seed + ";"), weekByLot(seed));
        }
    }

    void termsI_seedIs0IfNotTold() {
        due("dies", weekOfDeath(""), weekByLot(0));
    }

    void termsI_theLastSeedHolds() {
        due("of three", weekOfDeath("seed 3;seed 6;seed 12;"), weekByLot(12));
        due("of two", weekOfDeath("seed 12;seed 6;"), weekByLot(6));
    }

    void termsI_lawsIfNotTold() {
        LentSundays x = Check.of("sunday s 24 61;guest g 7 5 43;");
        x.letIn(0, 0);
        due("PAYS is fee", x.guest(0, 6), 43);
        due("RESTS is hours", x.guest(0, 7), 5);
        due("WEARS is 1", x.sunday(0, 5), 1);
        due("SELLS is worth", x.sunday(0, 6), 61);
    }

    void termsI_theLastLawHolds() {
        LentSundays x = Check.of("sunday s 24 61;guest g 7 5 43;pays=1;rests=2;wears=3;sells=4;sells=5;wears=6;rests=7;pays=8;");
        x.letIn(0, 0);
        due("PAYS", x.guest(0, 6), 8);
        due("RESTS", x.guest(0, 7), 7);
        due("WEARS", x.sunday(0, 5), 6);
        due("SELLS", x.sunday(0, 6), 5);
    }

    // ---- faults 1 and 2

    /** As many tokens, in tells that have no fault. */
    private static String tokens(int many) {
        int laws = many % 3;
        return "seed 1;".repeat((many - 4 * laws) / 3) + "pays=1;".repeat(laws);
    }

    /** A beginning of so many tokens comes as the first 399, and as the first 400: the 401st has no room. */
    private void goesOnAtTheLimit(String beginning, int many, String... right) {
        goesOnWith(tokens(399 - many) + beginning, right);
        String full = tokens(400 - many) + beginning;
        for (String token : right) {
            fault(full + " " + token, 2, full.length() + 1);
        }
        for (String token : new String[] {"x", "1", ";", "<", "then", "fee", "seed", ".", "12345"}) {
            if (!List.of(right).contains(token)) {
                fault(full + " " + token, 1, full.length() + 1);
            }
        }
    }

    void termsI_a401stTokenHasNoRoom() {
        String[] unit = with(VARS, "1", "(");
        goesOnAtTheLimit("", 0, with(TELLS));
        goesOnAtTheLimit("sunday", 1, "x");
        goesOnAtTheLimit("sunday s", 2, "1");
        goesOnAtTheLimit("sunday s 1 1", 4, ";");
        goesOnAtTheLimit("guest g 1 1 1", 5, ";");
        goesOnAtTheLimit("seed", 1, "1");
        goesOnAtTheLimit("death 1", 2, ";");
        goesOnAtTheLimit("sells", 1, "=");
        goesOnAtTheLimit("sells =", 2, with(VARS, "1", "(", "if"));
        goesOnAtTheLimit("sells = 1", 3, "+", "-", "*", "/", ";");
        goesOnAtTheLimit("sells = 1 +", 4, unit);
        goesOnAtTheLimit("sells = (1", 4, "+", "-", "*", "/", ")");
        goesOnAtTheLimit("sells = if 1", 4, "+", "-", "*", "/", "<");
        goesOnAtTheLimit("sells = if 1 < 2", 6, "+", "-", "*", "/", "then");
        goesOnAtTheLimit("sells = if 1 < 2 then 3", 8, "+", "-", "*", "/", "else");
    }

    void termsI_400TokensWithBlanksBehindHaveRoom() {
        good(tokens(400));
        good(tokens(400) + " \t\r\n ");
        good("pays=1" + "+1".repeat(198) + ";");
        faultAt("pays=1" + "+1".repeat(198) + "+!1;", 2);
    }

    void termsI_aLawMayTakeMostOf400Tokens() {
        LentSundays x = Check.of("seed 1;sunday s 9 9;sells=9" + "+1-1".repeat(97) + ";");
        due("SELLS", x.sunday(0, 6), 9);
        LentSundays y = Check.of("seed 1;guest g 0 1 1;sunday s 9 9;wears=9" + "+1-1".repeat(95) + "+3;");
        y.letIn(0, 0);
        due("WEARS", y.sunday(0, 5), 12);
        LentSundays z = Check.of("pays=" + "1*".repeat(150) + "6;seed 1;guest g 0 1 1;sunday s 9 9;");
        z.letIn(0, 0);
        due("PAYS", z.guest(0, 6), 6);
    }

    void termsI_a5thIfOfALawHasNoRoom() {
        for (String law : LAWS) {
            good(law + "=" + FOUR_IFS + "4;");
            faultAt(law + "=" + FOUR_IFS + "!if 1<2 then 3 else 4;", 2);
            faultAt(law + "=" + FOUR_IFS + "!if", 2);
            faultAt(law + "=" + FOUR_IFS + "!then", 1);
        }
        good("pays=" + FOUR_IFS + "4;rests=" + FOUR_IFS + "4;wears=" + FOUR_IFS + "4;sells=" + FOUR_IFS + "4;pays=" + FOUR_IFS + "4;");
    }

    void termsI_a7thBracketWithinOneAnotherHasNoRoom() {
        String six = "((((((1))))))";
        String seven = "((((((!(1)))))))";
        for (String law : LAWS) {
            good(law + "=" + six + ";");
            faultAt(law + "=" + seven + ";", 2);
        }
        good("pays=if " + six + "<" + six + " then " + six + " else " + six + ";");
        faultAt("pays=if " + seven + "<1 then 2 else 3;", 2);
        faultAt("pays=if 1<" + seven + " then 2 else 3;", 2);
        faultAt("pays=if 1<2 then " + seven + " else 3;", 2);
        faultAt("pays=if 1<2 then 3 else " + seven + ";", 2);
        good("pays=" + six + "+" + six + "*" + six + "-((((((1)+(2))*(3))))/(4));");
        faultAt("pays=((((((1)+(!(2))))))));", 2);
        faultAt("pays=((((((1))))))+((((((!(", 2);
        faultAt("pays=((((((!)", 1);
    }

    void termsI_theFirstFaultByItsPlace() {
        faultAt(FOUR_SUNDAYS + "!. sunday l 5 5;", 1);
        faultAt(FOUR_SUNDAYS + "!sunday . 5 5;", 2);
        faultAt(FOUR_SUNDAYS + "!sunday l 5 5; .", 2);
        faultAt("pays=((((((!(1;", 2);
        faultAt("pays=!.((((((((1;", 1);
        faultAt(FOUR_SUNDAYS + SEVEN + "!guest l 1 1 1;sunday m 1 1;", 2);
        faultAt("seed !. " + tokens(400), 1);
    }

    void termsI_ofOnePlaceTheLeastFault() {
        faultAt(tokens(400) + "!x", 1);
        faultAt(tokens(400) + "!.", 1);
        faultAt(tokens(400) + "!abcdefghi", 1);
        faultAt(tokens(400) + "!seed", 2);
        faultAt(tokens(399) + "seed !x", 1);
        faultAt(tokens(399) + "seed !1", 2);
        faultAt(tokens(399) + "seed!", 1);
    }

    // ---- faults 3 to 5

    void termsI_faults3To5AreToldIfThereIsNoneOf1And2() {
        faultAt("sunday s 0 1;!.", 1);
        faultAt("sunday s 1 1;sunday s 1 1;seed!", 1);
        faultAt("foes a b;!;", 1);
        faultAt("foes a b;sunday s 0 100;death 0;pays=((((((!(", 2);
        faultAt("sunday s 0 0;" + tokens(395) + "!seed 1;", 2);
        faultAt("sunday s !0 0;" + tokens(395), 5);
    }

    void termsI_twiceANameToldAlready() {
        String[] names = {"h", "i", "j", "k", "a", "b", "c", "d", "e", "f"};
        String ten = FOUR_SUNDAYS + SEVEN.substring(0, SEVEN.indexOf("guest g"));
        for (String name : names) {
            faultAt(ten + "guest !" + name + " 6 1 1;", 3);
        }
        String guests = SEVEN + FOUR_SUNDAYS.substring(0, FOUR_SUNDAYS.indexOf("sunday k"));
        for (String name : new String[] {"a", "g", "h", "j"}) {
            faultAt(guests + "sunday !" + name + " 4 4;", 3);
        }
        faultAt("sunday s 1 1;sunday !s 1 1;sunday s 1 1;", 3);
    }

    void termsI_twiceFoesWhoAreOne() {
        faultAt(SEVEN + "foes a !a;", 3);
        faultAt(SEVEN + "foes g !g;", 3);
    }

    void termsI_twiceFoesToldAlreadyEitherWayRound() {
        faultAt(SEVEN + "foes a b;foes a !b;", 3);
        faultAt(SEVEN + "foes a b;foes b !a;", 3);
        faultAt(SEVEN + "foes g f;foes e d;foes f !g;", 3);
        good(SEVEN + "foes a b;foes a c;foes c b;");
    }

    void termsI_noSuchGuestToldAhead() {
        faultAt("foes !a b;", 4);
        faultAt("foes !a a;", 4);
        faultAt("guest a 0 1 1;foes a !b;", 4);
        faultAt("guest a 0 1 1;foes !b a;", 4);
        faultAt("guest a 0 1 1;foes a !b;guest b 1 1 1;", 4);
        faultAt("guest a 0 1 1;sunday s 1 1;foes a !s;", 4);
        faultAt("guest a 0 1 1;sunday s 1 1;foes !s a;", 4);
        good("guest a 0 1 1;guest b 1 1 1;foes a b;");
    }

    void termsI_aNameToldMoreThanOnceIsThatOfTheFirst() {
        faultAt("guest a 0 1 1;guest !a 1 1 1;guest b 2 1 1;foes a b;foes b a;", 3);
        faultAt("guest a 0 1 1;sunday !a 1 1;foes a x;", 3);
        faultAt("foes !a b;guest a 0 1 1;guest a 1 1 1;", 4);
    }

    void termsI_aWrongNumberIsToldAtTheInt() {
        faultAt("sunday s !0000 100;", 5);
        faultAt("sunday s 1   !0100;", 5);
        faultAt("guest g !24 0 100;", 5);
        faultAt("guest g 23 !0 100;", 5);
        good("pays=0;rests=9999;wears=100;sells=1000;");
    }

    void termsI_faults3To5TheFirstByItsPlace() {
        faultAt("sunday s !0 1;sunday s 1 1;", 5);
        faultAt("sunday s 1 1;sunday !s 0 1;", 3);
        faultAt("foes !a b;death 0;", 4);
        faultAt("death !0;foes a b;", 5);
        faultAt("foes !a b;sunday s 1 1;sunday s 1 1;", 4);
        faultAt("sunday s 1 1;guest !s 24 1 1;foes s x;", 3);
    }

    // ---- what a read changes

    private static LentSundays inUse() {
        LentSundays x = Check.of("sunday s 9 7;sunday t 5 5;guest g 0 2 3;guest h 2 2 5;foes g h;pays=4;rests=6;wears=2;"
            + "sells=worth-worn;death 50;seed 3;");
        x.letIn(0, 0);
        x.weeks(2);
        x.sell(1);
        x.tell(1, true);
        x.hold(1);
        return x;
    }

    void termsI_aTextWithAFaultChangesNothingButTheTape() {
        String whole = "sunday a 5 5;sunday b 6 6;guest c 0 1 1;guest d 1 1 1;pays=9;rests=9;wears=9;sells=9;death 9;seed 9;";
        String[] faulty = {whole + ".", whole + "pays=(((((((", whole + "foes c c;", whole + "foes c x;", whole + "death 0;"};
        for (int i = 0; i < faulty.length; i++) {
            LentSundays x = inUse();
            List<Integer> before = seen(x);
            int weary = x.weary(0);
            due("fault", Check.read(x, faulty[i]), i + 1);
            due("the tape", x.count(8), 0);
            same("fault " + (i + 1), x, before);
            due("long", x.sunday(0, 0) * 10 + x.sunday(1, 0), 95);
            due("hours", x.guest(1, 0) * 10 + x.guest(1, 1), 22);
            due("rests", x.guest(0, 7), 6);
            due("wears", x.sunday(0, 5), 2);
            due("death", x.weary(0), weary);
            due("foes", x.rivals(0), 2);
            due("undo", x.undo(), true);
            due("undone", x.count(6), 0);
            due("restore", x.restore(1), true);
            due("restored", x.count(6), 2);
        }
    }

    void termsI_aFaultyTextLeavesNothingToTheNext() {
        LentSundays x = new LentSundays();
        Check.read(x, FOUR_SUNDAYS + SEVEN + EIGHT_FOES + "pays=9;rests=9;wears=9;sells=9;death 9;seed 6;.");
        due("read", Check.read(x, "sunday s 24 61;guest g 7 5 43;guest i 0 1 1;"), 0);
        x.letIn(0, 0);
        due("Sundays", x.count(0), 1);
        due("guests", x.count(1), 2);
        due("pairs", x.count(14), 0);
        due("PAYS", x.guest(0, 6), 43);
        due("RESTS", x.guest(0, 7), 5);
        due("WEARS", x.sunday(0, 5), 1);
        due("SELLS", x.sunday(0, 6), 61);
        due("DEATH", x.weary(0), 20);
    }

    void termsI_aTextLeavesNothingToTheNext() {
        LentSundays x = new LentSundays();
        for (int i = 0; i < 4; i++) {
            due("full " + i, Check.read(x, FOUR_SUNDAYS + SEVEN + EIGHT_FOES
                + "pays=9;rests=if rested < 1 then 1 else 0;wears=9;sells=9;death 1;seed 6;"), 0);
        }
        for (int i = 0; i < 2; i++) {
            due("read", Check.read(x, "sunday s 24 61;guest g 7 5 43;guest i 0 1 1;"), 0);
            due("Sundays", x.count(0), 1);
            due("guests", x.count(1), 2);
            due("pairs", x.count(14), 0);
            due("who fits", x.count(16), 3);
            due("hours", x.count(17), 24);
            due("fees", x.count(18), 44);
            due("idle", x.idle(), 24);
            due("letting", x.letting(-1), 44);
            due("fewest", x.fewest(1), 1);
            due("colours", x.colours(), 1);
            due("tangle", x.tangle(1), 1);
            due("whose", x.whose(0, 1), 3);
            x.letIn(0, 0);
            due("PAYS", x.guest(0, 6), 43);
            due("RESTS", x.guest(0, 7), 5);
            due("WEARS", x.sunday(0, 5), 1);
            due("SELLS", x.sunday(0, 6), 61);
            due("DEATH", x.weary(0), 20);
        }
        due("SEED 6", weekByLot(6) != weekByLot(0), true);
        String dying = "sunday s 9 9;guest g 0 1 0;death 1;rests = if rested < 1 then 1 else 0;";
        for (int i = 0; i < 3; i++) {
            Check.read(x, dying + "seed 6;");
        }
        Check.read(x, dying);
        x.letIn(0, 0);
        for (int n = 0; n <= 40; n++) {
            due("SEED 0, in " + n, x.then(0, n, 2) == 1, n > weekByLot(0));
        }
    }

    void termsI_aFaultIsOfItsOwnTextAlone() {
        LentSundays x = new LentSundays();
        due("3", Check.read(x, "sunday s 1 1;sunday s 1 1;"), 3);
        due("place", x.place(), 20);
        due("5", Check.read(x, "death 0;sunday s 1 1;"), 5);
        due("place", x.place(), 6);
        due("4", Check.read(x, "foes a b;"), 4);
        due("place", x.place(), 5);
        due("none", Check.read(x, "sunday s 1 1;"), 0);
        due("place", x.place(), -1);
        due("1", Check.read(x, "sunday s 1 1;sunday s 1 1;."), 1);
        due("none", Check.read(x, ""), 0);
        due("place", x.place(), -1);
    }

    void termsI_aTextWithoutFaultIsInPlaceOfTheOneAhead() {
        LentSundays x = inUse();
        due("read", Check.read(x, "sunday a 6 4;guest c 1 1 8;"), 0);
        due("Sundays", x.count(0), 1);
        due("guests", x.count(1), 1);
        due("long", x.sunday(0, 0), 6);
        due("hour", x.guest(0, 0), 1);
        due("foes are gone", x.rivals(0), 0);
        due("the law is gone", x.alone(0, 0), 8);
    }

    void termsI_itBeginsInWeek0WithoutMoneyAndNobodyLetInOrRested() {
        String text = "sunday s 9 7;sunday t 5 5;guest g 0 2 3;guest h 2 2 5;rests=99;death 1;";
        LentSundays x = Check.of(text);
        x.letIn(0, 0);
        x.letIn(1, 1);
        x.weeks(1);
        x.sell(1);
        due("two are dead", x.count(5), 3);
        due("read", Check.read(x, text), 0);
        for (int what : numbers(2, 3, 4, 5, 6, 7, 8, 9, 10, 11, 12, 13, 15)) {
            due("count " + what, x.count(what), 0);
        }
        due("let in", x.letIn(0, 0) && x.letIn(1, 1), true);
        due("read", Check.read(x, text), 0);
        due("nobody is in", x.count(4), 0);
        due("nobody is in", x.sunday(0, 4) + x.sunday(1, 4), 0);
        due("let in again", x.letIn(0, 0) && x.letIn(1, 1), true);
    }

    void termsI_thenNothingCanBeUndoneOrIsToldOrHeld() {
        LentSundays x = inUse();
        x.hold(0);
        x.hold(2);
        due("read", Check.read(x, "sunday s 9 7;"), 0);
        due("undo", x.undo(), false);
        due("told", x.forget(), 0);
        for (int slot = 0; slot < 3; slot++) {
            due("slot " + slot, x.restore(slot), false);
        }
    }

    // ---- promises 2 to 5

    private static int feedBlanks(LentSundays x) {
        return x.feed(0x20202020, 0x20202020, 0x20202020, 0x20202020, 0x20202020);
    }

    private static LentSundays withBlanks(int twenties) {
        LentSundays x = new LentSundays();
        for (int i = 0; i < twenties; i++) {
            feedBlanks(x);
        }
        return x;
    }

    void promise02_feedAnswersHowManyBytesThereAre() {
        LentSundays x = new LentSundays();
        for (int i = 1; i <= 100; i++) {
            due("feed " + i, feedBlanks(x), 20 * i);
        }
    }

    void promise02_noMoreThan2000Bytes() {
        LentSundays x = withBlanks(100);
        due("at 2000", feedBlanks(x), -1);
        x.back(19);
        due("at 1981", feedBlanks(x), -1);
        x.back(1);
        due("at 1980", feedBlanks(x), 2000);
        due("at 2000 again", feedBlanks(x), -1);
    }

    void promise02_nothingComesIfItWouldBeMore() {
        LentSundays x = withBlanks(100);
        x.back(1);
        due("at 1999", x.feed(-1, -1, -1, -1, -1), -1);
        due("as many", x.count(8), 1999);
        due("blanks alone", x.read(), 0);
    }

    void promise02_theHighestByteOfAComesFirst() {
        for (int place = 0; place < 20; place++) {
            int[] words = new int[5];
            for (int i = 0; i < 20; i++) {
                words[i / 4] = words[i / 4] << 8 | (i == place ? 0xff : 32);
            }
            LentSundays x = new LentSundays();
            x.feed(words[0], words[1], words[2], words[3], words[4]);
            due("read", x.read(), 1);
            due("place", x.place(), place);
        }
    }

    void promise03_backTakesAsManyAsThereAre() {
        LentSundays x = withBlanks(2);
        due("0", x.back(0), 40);
        due("1", x.back(1), 39);
        due("all", x.back(39), 0);
        due("none of none", x.back(0), 0);
        LentSundays full = withBlanks(100);
        due("2000", full.back(2000), 0);
    }

    void promise03_noneIfThereAreNotSoMany() {
        LentSundays x = withBlanks(2);
        due("41", x.back(41), -1);
        due("the most", x.back(MOST), -1);
        due("nothing went", x.count(8), 40);
        x.back(40);
        due("1 of none", x.back(1), -1);
        due("nothing went", x.count(8), 0);
    }

    void promise03_noneIfNIsBelow0() {
        LentSundays x = withBlanks(2);
        due("-1", x.back(-1), -1);
        due("the least", x.back(LEAST), -1);
        due("nothing went", x.count(8), 40);
    }

    void promise03_theLastBytesGo() {
        LentSundays x = new LentSundays();
        x.feed('s' << 24 | 'e' << 16 | 'e' << 8 | 'd', 0x2039393b, 0x2e2e2e2e, 0x2e2e2e2e, 0x2e2e2e2e);
        x.back(12);
        feedBlanks(x);
        due("the first 8, and blanks", x.read(), 0);
    }

    void promise04_theTapeIsEmptyThen() {
        LentSundays x = withBlanks(3);
        due("no fault", x.read(), 0);
        due("empty", x.count(8), 0);
        due("a fault", Check.read(x, "."), 1);
        due("empty", x.count(8), 0);
        due("empty for good", x.read(), 0);
    }

    void promise04_anEmptyTapeIsATextOfNothing() {
        LentSundays x = inUse();
        due("read", x.read(), 0);
        due("no Sundays", x.count(0), 0);
        due("no guests", x.count(1), 0);
        due("week 0", x.count(2), 0);
    }

    void promise04_readAnswersEachFault() {
        fault("seed 1;", 0, -1);
        fault(".", 1, 0);
        fault(FOUR_SUNDAYS + "sunday", 2, FOUR_SUNDAYS.length());
        fault("sunday s 1 1;sunday s 1 1;", 3, 20);
        fault("foes a b;", 4, 5);
        fault("death 0;", 5, 6);
    }

    void promise05_noneWithoutAFault() {
        LentSundays x = new LentSundays();
        due("no read yet", x.place(), -1);
        Check.read(x, "seed 1;");
        due("no fault", x.place(), -1);
        Check.read(x, "seed .;");
        Check.read(x, "seed 1;");
        due("no fault behind a fault", x.place(), -1);
    }

    void promise05_thePlaceOfTheLatestRead() {
        LentSundays x = new LentSundays();
        Check.read(x, "seed .;");
        due("5", x.place(), 5);
        feedBlanks(x);
        x.back(3);
        due("still", x.place(), 5);
        x.read();
        Check.read(x, "  .");
        due("2", x.place(), 2);
        Check.read(x, "death 0;");
        due("6", x.place(), 6);
        Check.read(x, ".");
        due("0", x.place(), 0);
    }
}
