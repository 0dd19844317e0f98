import java.util.List;

/** Boundary cases of "Terms", part II, and of promises 6 to 14. */
final class WeekBounds extends Bounds {
    /** Two Sundays, three guests: a 0-1, b 2-4, c 4-5, of whom b and c clash. */
    private static final String HOUSE = "sunday s 6 7;sunday t 5 5;guest a 0 2 3;guest b 2 3 5;guest c 4 2 9;";
    private static final String SEVEN = "guest a 0 1 1;guest b 1 1 1;guest c 2 1 1;guest d 3 1 1;guest e 4 1 1;"
        + "guest f 5 1 1;guest g 6 1 1;";

    // ---- hours, clashing, fitting

    void termsII_aGuestsHoursAreFromTheirsOn() {
        LentSundays x = Check.of("sunday s 24 1;guest a 3 1 1;guest b 5 12 1;guest c 23 1 1;");
        x.letIn(0, 0);
        x.letIn(1, 0);
        x.letIn(2, 0);
        for (int hour = 0; hour < 24; hour++) {
            due("hour " + hour, x.at(0, hour), hour == 3 ? 0 : hour >= 5 && hour <= 16 ? 1 : hour == 23 ? 2 : -2);
        }
    }

    void termsII_oneHourInCommonIsAClash() {
        LentSundays x = Check.of("guest a 4 4 1;guest b 7 1 1;guest c 8 1 1;guest d 3 1 1;guest e 4 1 1;guest f 0 4 1;guest g 0 5 1;");
        due("of a", x.rivals(0), 2 + 16 + 64);
        due("of b", x.rivals(1), 1);
        due("of c", x.rivals(2), 0);
        due("of d", x.rivals(3), 32 + 64);
        due("of e", x.rivals(4), 1 + 64);
    }

    void termsII_hoursDoNotGoRound() {
        LentSundays x = Check.of("sunday s 24 1;guest a 23 12 1;guest b 0 11 1;guest c 22 1 1;guest d 23 1 1;");
        due("clash", x.rivals(0), 8);
        due("fits", x.fitting(0), 0);
    }

    void termsII_foesClashWithoutAnHourInCommon() {
        LentSundays x = Check.of(SEVEN + "foes a g;foes c b;");
        due("a", x.rivals(0), 64);
        due("b", x.rivals(1), 4);
        due("c", x.rivals(2), 2);
        due("d", x.rivals(3), 0);
        due("g", x.rivals(6), 1);
    }

    void termsII_aGuestFitsASundayLongEnoughForAllTheirHours() {
        LentSundays x = Check.of("sunday s 5 1;sunday t 4 1;sunday u 24 1;guest a 3 2 1;guest b 4 1 1;guest c 23 1 1;"
            + "guest d 12 12 1;guest e 23 2 1;guest f 13 12 1;guest g 3 1 1;");
        int[] want = {5, 5, 4, 4, 0, 0, 7};
        for (int g = 0; g < 7; g++) {
            due("guest " + g, x.fitting(g), want[g]);
        }
    }

    void termsII_nobodyFitsASoldSunday() {
        LentSundays x = Check.of(HOUSE);
        due("both", x.fitting(0), 3);
        x.sell(0);
        due("the other", x.fitting(0), 2);
        x.sell(1);
        due("none", x.fitting(0), 0);
    }

    // ---- laws

    private void pays(String law, int want) {
        LentSundays x = Check.of("sunday s 24 50;guest z 20 1 1;guest a 3 2 7;pays = " + law + ";");
        x.letIn(1, 0);
        due("PAYS = " + law, x.guest(1, 6), want);
    }

    void termsII_theEOfTheFirstIfThatHolds() {
        String law = "if hour < 1 then 11 else if hour < 2 then 12 else if hour < 3 then 13 else if hour < 4 then 14 else 15";
        for (int hour = 0; hour < 6; hour++) {
            LentSundays x = Check.of("sunday s 24 50;guest a " + hour + " 2 7;pays = " + law + ";");
            x.letIn(0, 0);
            due("hour " + hour, x.guest(0, 6), Math.min(11 + hour, 15));
        }
    }

    /** As many values open at once as there can be; 645119 of 0, 1290239 of 1. */
    private static String deep(int last) {
        return "1 + 2 * (3 + 4 * (5 + 6 * (7 + 8 * (9 + 10 * (11 + 12 * (13 + 14 * " + last + "))))))";
    }

    void termsII_lawsWithSixBracketsAndFourIfs() {
        pays(deep(0) + " / 9999", 65);
        pays(deep(1) + " / 9999 - 90", 40);
        pays("if " + deep(0) + " < " + deep(1) + " then 8 else 9", 8);
        pays("if " + deep(1) + " < " + deep(0) + " then 8 else 9", 9);
        String not = "if 4 < 2 then 8 else ";
        pays(not + not + not + not + deep(0) + " / 9999", 65);
        pays(not + not + not + "if 3 < 4 then " + deep(0) + " / 9999 else 1", 65);
    }

    void termsII_anIfHoldsIfOneIsLess() {
        pays("if 1 < 2 then 8 else 9", 8);
        pays("if 2 < 2 then 8 else 9", 9);
        pays("if 3 < 2 then 8 else 9", 9);
        pays("if 0 - 1 < 0 then 8 else 9", 8);
        pays("if 0 < 0 - 1 then 8 else 9", 9);
        pays("if 0 - 2 < 0 - 1 then 8 else 9", 8);
    }

    /** 2048 * 1024 * 1024 is one more than the most that an int can be. */
    void termsII_intsWrap() {
        String least = "2048 * 1024 * 1024";
        pays("if " + least + " < 0 then 8 else 9", 8);
        pays("if 0 < " + least + " - 1 then 8 else 9", 8);
        pays("if " + least + " - 1 + 1 < 0 then 8 else 9", 8);
        pays("if " + least + " < 0 - (" + least + " - 1) then 8 else 9", 8);
        pays(least + " * 2 + 7", 7);
        pays(least + " + " + least + " + 7", 7);
        pays("0 - " + least + " - " + least + " + 7", 7);
        pays("9999 * 9999 * 9999 / 9999 / 9999 + 60", 50);
    }

    void termsII_theLeastIntByMinus1Wraps() {
        String least = "2048 * 1024 * 1024";
        pays("if (" + least + ") / (0 - 1) < 0 then 8 else 9", 8);
        pays("if (" + least + " + 1) / (0 - 1) < 0 then 8 else 9", 9);
        pays("(" + least + ") / (0 - 1) - " + least + " + 6", 6);
    }

    void termsII_divisionIsRoundedTowards0() {
        pays("20 + 7 / 2", 23);
        pays("20 + (0 - 7) / 2", 17);
        pays("20 + 7 / (0 - 2)", 17);
        pays("20 + (0 - 7) / (0 - 2)", 23);
        pays("20 + (0 - 1) / 2", 20);
        pays("20 + 1 / 2", 20);
        pays("20 + 6 / 2", 23);
        pays("20 + (0 - 6) / 2", 17);
    }

    void termsII_aLawThatDividesBy0Is0() {
        LentSundays x = Check.of("sunday s 9 50;guest a 0 2 7;pays = 5 + 1 / worn;rests = 5 + 0 / worn;wears = 5 + 1 / (others - 1);"
            + "sells = 5 + 1 / (week - 1);");
        x.letIn(0, 0);
        due("PAYS", x.guest(0, 6), 0);
        due("RESTS", x.guest(0, 7), 0);
        due("WEARS", x.sunday(0, 5), 0);
        due("SELLS by -1", x.sunday(0, 6), 4);
        due("week 1", x.weeks(1), 1);
        due("paid", x.count(3), 0);
        due("rested", x.guest(0, 4), 0);
        due("worn", x.sunday(0, 2), 0);
        due("SELLS by 0", x.sunday(0, 6), 0);
        due("week 2", x.weeks(1), 2);
        due("SELLS by 1", x.sunday(0, 6), 6);
    }

    void termsII_whatIsLookedAtDividesBy0() {
        pays("50 + 0 * (1 / 0)", 0);
        pays("1 / 0 * 0 + 50", 0);
        pays("50 - 0 / 0", 0);
        pays("1 / (1 / 2)", 0);
        pays("if 1 / 0 < 1 then 5 else 6", 0);
        pays("if 1 < 1 / 0 then 5 else 6", 0);
        pays("if 1 < 2 then 1 / 0 else 6", 0);
        pays("if 2 < 1 then 5 else 1 / 0", 0);
        pays("if 2 < 1 then 5 else if 3 < 4 / 0 then 6 else 7", 0);
    }

    void termsII_whatIsNotLookedAtMayDivideBy0() {
        pays("if 1 < 2 then 5 else 1 / 0", 5);
        pays("if 2 < 1 then 1 / 0 else 6", 6);
        pays("if 1 < 2 then 5 else if 1 / 0 < 1 then 6 else 7", 5);
        pays("if 2 < 1 then 1 / 0 else if 2 < 1 then 1 / 0 else if 2 < 1 then 1 / 0 else if 2 < 1 then 1 / 0 else 9", 9);
    }

    void termsII_lawsAreHeldTo0To99() {
        for (int[] pair : new int[][] {{-9999, 0}, {-1, 0}, {0, 0}, {1, 1}, {98, 98}, {99, 99}, {100, 99}, {9999, 99}}) {
            String law = pair[0] < 0 ? "0 - " + -pair[0] : "" + pair[0];
            LentSundays x = Check.of("sunday s 9 50;guest a 0 2 7;pays=" + law + ";rests=" + law + ";wears=" + law
                + ";sells=" + law + ";death 999;");
            x.letIn(0, 0);
            due("PAYS " + law, x.guest(0, 6), pair[1]);
            due("RESTS " + law, x.guest(0, 7), pair[1]);
            due("WEARS " + law, x.sunday(0, 5), pair[1]);
            due("SELLS " + law, x.sunday(0, 6), pair[1]);
            x.weeks(1);
            due("paid " + law, x.count(3), pair[1]);
            due("rested " + law, x.guest(0, 4), pair[1]);
            due("worn " + law, x.sunday(0, 2), pair[1]);
            x.putOut(0);
            due("sold " + law, x.sell(0), pair[1]);
        }
    }

    void termsII_whatALawOfAGuestLooksAt() {
        String text = "sunday r 9 3;sunday s 24 31;guest z 0 1 1;guest a 13 4 17;guest b 1 2 1;guest c 3 1 1;rests = 5;wears = 6;pays = ";
        String[] vars = {"fee", "hours", "hour", "rested", "worn", "worth", "week", "which", "others"};
        int[] want = {17, 4, 13, 10, 12, 31, 2, 1, 2};
        for (int i = 0; i < vars.length; i++) {
            LentSundays x = Check.of(text + vars[i] + ";");
            x.letIn(0, 0);
            x.letIn(1, 1);
            x.letIn(2, 1);
            x.letIn(3, 1);
            x.weeks(2);
            due(vars[i], x.guest(1, 6), want[i]);
        }
    }

    /** Of WEARS and SELLS: all of a guest is 0, but hours, which and others. */
    void termsII_whatALawOfASundayLooksAt() {
        String text = "sunday r 9 3;sunday s 24 31;guest z 0 1 9;guest a 13 4 17;guest b 1 2 9;guest c 3 1 9;rests = 5;";
        String[] vars = {"fee", "hours", "hour", "rested", "worn", "worth", "week", "which", "others"};
        int[] want = {5, 12, 5, 5, 5, 36, 7, 6, 8};
        for (int i = 0; i < vars.length; i++) {
            LentSundays x = Check.of(text + "wears = if week < 2 then 0 else 5 + " + vars[i] + ";sells = 5 + " + vars[i] + ";");
            x.letIn(0, 0);
            x.letIn(1, 1);
            x.letIn(2, 1);
            x.letIn(3, 1);
            x.weeks(2);
            due("WEARS = " + vars[i], x.sunday(1, 5), want[i]);
            due("SELLS = " + vars[i], x.sunday(1, 6), want[i]);
        }
        LentSundays x = Check.of(text + "wears = 4 + worn;sells = worn;");
        x.letIn(0, 0);
        x.weeks(2);
        due("WEARS by worn", x.sunday(0, 5), 16);
        due("SELLS by worn", x.sunday(0, 6), 12);
    }

    void termsII_othersAreFrom0To6() {
        LentSundays x = Check.of("sunday s 9 50;" + SEVEN + "pays = others;wears = others;sells = others * 10 + hours;");
        due("SELLS of nobody", x.sunday(0, 6), 0);
        for (int g = 0; g < 7; g++) {
            x.letIn(g, 0);
            due("PAYS with " + g, x.guest(0, 6), g);
            due("WEARS with " + (g + 1), x.sunday(0, 5), g + 1);
            due("SELLS with " + (g + 1), x.sunday(0, 6), 11 * (g + 1));
        }
    }

    void termsII_hoursOfASundayAreFrom0To24() {
        LentSundays x = Check.of("sunday s 24 50;guest a 0 12 1;guest b 12 12 1;wears = hours;sells = hours;");
        due("SELLS of nobody", x.sunday(0, 6), 0);
        x.letIn(0, 0);
        due("half", x.sunday(0, 5), 12);
        x.letIn(1, 0);
        due("all", x.sunday(0, 5), 24);
        due("all", x.sunday(0, 6), 24);
    }

    // ---- the week

    void termsII_aWeekGoesByHowItWasAsItBegan() {
        LentSundays x = Check.of("sunday s 9 50;guest a 0 2 7;guest b 2 2 7;pays = rested + worn * 2 + week * 30 + 1;"
            + "rests = worn + rested + week + 3;wears = week + worn + 4;death 999;");
        x.letIn(0, 0);
        x.letIn(1, 0);
        x.weeks(1);
        due("paid", x.count(3), 2);
        due("rested", x.guest(0, 4), 3);
        due("worn", x.sunday(0, 2), 4);
        x.weeks(1);
        due("paid", x.count(3), 2 + 2 * (3 + 8 + 30 + 1));
        due("rested", x.guest(1, 4), 3 + 4 + 3 + 1 + 3);
        due("worn", x.sunday(0, 2), 4 + 1 + 4 + 4);
    }

    /** The dead of a week pay, and are others and wear, in it. */
    void termsII_deathsComeLastInAWeek() {
        LentSundays x = Check.of("sunday s 9 50;guest a 0 2 7;guest b 2 2 7;pays = 5 + others;wears = others;rests = 99;death 1;");
        x.letIn(0, 0);
        x.letIn(1, 0);
        x.weeks(2);
        due("both are dead", x.count(5), 3);
        due("paid once", x.count(3), 12);
        due("worn once", x.sunday(0, 2), 2);
    }

    void termsII_restedBy999AtMost() {
        String text = "sunday s 9 50;guest a 0 2 7;death 999;seed " + seedOf(50, 11, 0) + ";rests = if week < 10 then 99 else if week < 11 then ";
        LentSundays x = Check.of(text + "8 else 1;");
        x.letIn(0, 0);
        x.weeks(10);
        due("10 weeks", x.guest(0, 4), 990);
        x.weeks(1);
        due("998", x.guest(0, 4), 998);
        x.weeks(1);
        due("999", x.guest(0, 4), 999);
        LentSundays y = Check.of(text + "8 else 2;");
        y.letIn(0, 0);
        y.weeks(12);
        due("1000 is 999", y.guest(0, 4), 999);
        due("alive", y.guest(0, 5), 0);
        y.putOut(0);
        y.weeks(1);
        due("then 1 less", y.guest(0, 4), 998);
    }

    void termsII_eachOtherOneIsRestedBy1LessAnd0AtLeast() {
        LentSundays x = Check.of("sunday s 9 50;guest a 0 2 7;rests = 2;");
        x.letIn(0, 0);
        x.weeks(1);
        x.putOut(0);
        for (int want : numbers(1, 0, 0, 0)) {
            x.weeks(1);
            due("less and less", x.guest(0, 4), want);
        }
    }

    void termsII_theDeadStayAsRested() {
        LentSundays x = withADeadGuest("sunday s 9 50;guest a 0 2 7;guest b 2 2 7;");
        due("dead", x.guest(0, 5), 1);
        due("rested", x.guest(0, 4), 99);
        x.weeks(40);
        due("rested", x.guest(0, 4), 99);
    }

    void termsII_wornBy99AtMost() {
        for (int last : numbers(1, 2, 99)) {
            LentSundays x = Check.of("sunday s 9 50;guest a 0 2 7;rests = 0;wears = if week < 1 then 98 else " + last + ";");
            x.letIn(0, 0);
            x.weeks(1);
            due("98", x.sunday(0, 2), 98);
            x.weeks(1);
            due("98 and " + last, x.sunday(0, 2), 99);
            x.weeks(1);
            due("still", x.sunday(0, 2), 99);
        }
    }

    void termsII_aSundayWithoutGuestsIsNotWorn() {
        LentSundays x = Check.of("sunday s 9 50;sunday t 9 50;guest a 0 2 7;wears = 5;rests = 0;");
        x.weeks(3);
        due("nobody anywhere", x.count(12), 0);
        x.letIn(0, 1);
        x.weeks(1);
        due("nobody here", x.sunday(0, 2), 0);
        due("somebody there", x.sunday(1, 2), 5);
        x.putOut(0);
        x.weeks(1);
        due("not any more", x.sunday(1, 2), 5);
    }

    /** Whether guest 0, rested by so many behind a week, dies of DEATH 100 if this lot falls to them in that week. */
    private static boolean diesOf(int rested, int lot) {
        LentSundays x = Check.of("sunday s 9 50;guest a 0 2 7;death 100;seed " + seedOf(lot, 2, 0) + ";rests = if week < 1 then 49 else "
            + "if week < 2 then 50 else " + (rested - 99) + ";");
        x.letIn(0, 0);
        x.weeks(3);
        return x.guest(0, 5) == 1;
    }

    void termsII_nobodyDiesWhoIsRestedByLessThanDeath() {
        due("99, lot 0", diesOf(99, 0), false);
        due("100, lot 0", diesOf(100, 0), true);
    }

    void termsII_oneDiesIfTheLotIsLessThanWhatIsBeyondDeathAnd10() {
        due("100, lot 9", diesOf(100, 9), true);
        due("100, lot 10", diesOf(100, 10), false);
        due("101, lot 10", diesOf(101, 10), true);
        due("101, lot 11", diesOf(101, 11), false);
        due("150, lot 59", diesOf(150, 59), true);
        due("150, lot 60", diesOf(150, 60), false);
        due("189, lot 98", diesOf(189, 98), true);
        due("189, lot 99", diesOf(189, 99), false);
        due("190, lot 99", diesOf(190, 99), true);
    }

    void termsII_onlyWhoWasInASundayDies() {
        LentSundays x = Check.of("sunday s 9 50;guest a 0 2 7;rests = 90;death 12;seed " + seedOf(99, 0, 0) + ";");
        x.letIn(0, 0);
        x.weeks(1);
        due("rested by more than DEATH, alive", x.guest(0, 4) * 10 + x.guest(0, 5), 900);
        due("in a Sunday one dies of that", x.then(0, 20, 2), 1);
        x.putOut(0);
        x.weeks(40);
        due("in no Sunday", x.guest(0, 4) * 10 + x.guest(0, 5), 500);
    }

    void termsII_theDeadAreInNoSunday() {
        LentSundays x = withADeadGuest("sunday s 9 50;guest a 0 2 7;guest b 0 2 7;");
        due("where", x.guest(0, 3), -2);
        due("who is there", x.sunday(0, 4), 0);
        due("room for another", x.letIn(1, 0), true);
    }

    /** Lots of all guests in many weeks, for seeds of all sizes; 10 of 100 are deaths. */
    void termsII_lotsOfSeedsAndWeeksAndGuests() {
        for (int seed : numbers(0, 1, 255, 4096, 9998, 9999)) {
            LentSundays x = Check.of("sunday s 9 50;" + SEVEN + "death 1;rests = if rested < 1 then 1 else 0;seed " + seed + ";");
            for (int g = 0; g < 7; g++) {
                x.letIn(g, 0);
            }
            int dead = 0;
            for (int week = 0; week < 40; week++) {
                for (int g = 0; g < 7; g++) {
                    dead |= lot(seed, 8 * week + g) < 10 ? 1 << g : 0;
                }
                x.weeks(1);
                due("dead by seed " + seed + " behind week " + week, x.count(5), dead);
            }
        }
    }

    /** Worked out apart from both writings of LOT. */
    void termsII_someLots() {
        int[][] rows = {{0, 0, 69}, {1, 0, 67}, {0, 1, 43}, {9999, 0, 62}, {9999, 318, 84}, {10018, 3, 77}, {77, 163838, 54}, {5, 163830, 60}};
        for (int[] row : rows) {
            due("LOT 100 of " + row[0] + " and " + row[1], lot(row[0], row[1]), row[2]);
        }
    }

    void termsII_itIsTheNextWeek() {
        LentSundays x = new LentSundays();
        due("week 0", x.count(2), 0);
        x.weeks(1);
        due("week 1", x.count(2), 1);
    }

    // ---- promises 6 to 14

    void promise06_noneForOtherSundays() {
        LentSundays x = Check.of(HOUSE);
        for (int what = 0; what < 7; what++) {
            due("the first", x.sunday(0, what) == -1, false);
            due("the last", x.sunday(1, what) == -1, false);
            for (int bad : numbers(-1, 2, 3, 4, LEAST, MOST)) {
                due("sunday " + bad + ", what " + what, x.sunday(bad, what), -1);
            }
        }
        due("none at all", new LentSundays().sunday(0, 0), -1);
    }

    void promise06_noneForOtherWhats() {
        LentSundays x = Check.of(HOUSE);
        for (int bad : numbers(-1, 7, 8, LEAST, MOST)) {
            due("what " + bad, x.sunday(0, bad), -1);
        }
    }

    void promise06_wearsOfNobodyIs0() {
        LentSundays x = Check.of(HOUSE + "wears = 9;");
        due("nobody", x.sunday(0, 5), 0);
        x.letIn(0, 0);
        due("somebody", x.sunday(0, 5), 9);
        due("nobody in the other", x.sunday(1, 5), 0);
        x.putOut(0);
        due("nobody any more", x.sunday(0, 5), 0);
    }

    void promise06_soldIs1ElseIs0() {
        LentSundays x = Check.of(HOUSE);
        due("not sold", x.sunday(1, 3), 0);
        x.sell(1);
        due("sold", x.sunday(1, 3), 1);
        due("the other", x.sunday(0, 3), 0);
    }

    void promise06_guestsInItFrom0ToAll() {
        LentSundays x = Check.of("sunday r 9 9;sunday s 9 9;" + SEVEN);
        for (int g = 0; g < 7; g++) {
            due("bits", x.sunday(1, 4), (1 << g) - 1);
            x.letIn(g, 1);
        }
        due("all", x.sunday(1, 4), 127);
        due("none in the other", x.sunday(0, 4), 0);
    }

    void promise07_noneForOtherGuests() {
        LentSundays x = Check.of(HOUSE);
        for (int what = 0; what < 8; what++) {
            due("the first", x.guest(0, what) == -1, false);
            due("the last", x.guest(2, what) == -1, false);
            for (int bad : numbers(-1, 3, 6, 7, LEAST, MOST)) {
                due("guest " + bad + ", what " + what, x.guest(bad, what), -1);
            }
        }
        due("none at all", new LentSundays().guest(0, 0), -1);
    }

    void promise07_noneForOtherWhats() {
        LentSundays x = Check.of(HOUSE);
        for (int bad : numbers(-1, 8, 9, LEAST, MOST)) {
            due("what " + bad, x.guest(0, bad), -1);
        }
    }

    void promise07_inNoSunday() {
        LentSundays x = Check.of(HOUSE + "pays = 8;rests = 9;");
        due("where", x.guest(0, 3), -2);
        due("PAYS", x.guest(0, 6), 0);
        due("RESTS", x.guest(0, 7), 0);
        x.letIn(0, 0);
        due("where", x.guest(0, 3), 0);
        due("PAYS", x.guest(0, 6), 8);
        due("RESTS", x.guest(0, 7), 9);
        x.putOut(0);
        due("where", x.guest(0, 3), -2);
        due("PAYS", x.guest(0, 6), 0);
        due("RESTS", x.guest(0, 7), 0);
    }

    void promise07_inTheLastSunday() {
        LentSundays x = Check.of("sunday h 9 1;sunday i 9 2;sunday j 9 3;sunday k 9 4;" + SEVEN + "pays = worth;");
        for (int s = 0; s < 4; s++) {
            x.letIn(s + 3, s);
            due("where", x.guest(s + 3, 3), s);
            due("PAYS", x.guest(s + 3, 6), s + 1);
        }
    }

    void promise07_deadIs1ElseIs0() {
        LentSundays x = withADeadGuest("sunday s 9 50;guest a 0 2 7;guest b 2 2 7;");
        due("dead", x.guest(0, 5), 1);
        due("not dead", x.guest(1, 5), 0);
    }

    void promise08_fromTheFirstHourToTheLast() {
        LentSundays x = Check.of(HOUSE);
        x.letIn(0, 0);
        x.letIn(2, 0);
        int[] want = {0, 0, -2, -2, 2, 2};
        for (int hour = 0; hour < 6; hour++) {
            due("hour " + hour, x.at(0, hour), want[hour]);
        }
        for (int hour = 0; hour < 5; hour++) {
            due("nobody, hour " + hour, x.at(1, hour), -2);
        }
    }

    void promise08_noneForNoHourThatItHas() {
        LentSundays x = Check.of(HOUSE + "sunday u 24 1;sunday v 1 1;");
        int[] hours = {6, 5, 24, 1};
        for (int s = 0; s < 4; s++) {
            due("the first", x.at(s, 0), -2);
            due("the last", x.at(s, hours[s] - 1), -2);
            due("beyond", x.at(s, hours[s]), -1);
            due("ahead", x.at(s, -1), -1);
            due("the least", x.at(s, LEAST), -1);
            due("the most", x.at(s, MOST), -1);
        }
    }

    void promise08_noneForNoSuchSunday() {
        LentSundays x = Check.of(HOUSE);
        for (int bad : numbers(-1, 2, 3, 4, LEAST, MOST)) {
            due("sunday " + bad, x.at(bad, 0), -1);
        }
    }

    /** A call that is refused: neither what can be seen nor what can be undone is another then. */
    private void refused(String why, LentSundays x, int guest, int sunday) {
        List<Integer> before = seen(x);
        due(why, x.letIn(guest, sunday), false);
        same(why, x, before);
    }

    void promise09_letInIsTrueOnceAtATime() {
        LentSundays x = Check.of(HOUSE);
        due("let in", x.letIn(0, 0), true);
        due("things done", x.count(9), 1);
        refused("in it", x, 0, 0);
        refused("in another", x, 0, 1);
    }

    void promise09_falseForTheDead() {
        refused("dead", withADeadGuest("sunday s 9 50;guest a 0 2 7;guest b 2 2 7;"), 0, 0);
    }

    void promise09_falseIfTheyDoNotFit() {
        LentSundays x = Check.of(HOUSE);
        refused("an hour too long", x, 2, 1);
        due("just long enough", x.letIn(2, 0), true);
        LentSundays y = Check.of(HOUSE);
        y.sell(0);
        refused("sold", y, 2, 0);
    }

    void promise09_falseIfSomebodyClashes() {
        LentSundays x = Check.of(HOUSE + "foes a c;");
        x.letIn(1, 0);
        refused("one hour in common", x, 2, 0);
        due("side by side", x.letIn(0, 0), true);
        x.putOut(1);
        refused("a foe", x, 2, 0);
        x.putOut(0);
        due("nobody there", x.letIn(2, 0), true);
    }

    void promise09_falseForNoSuchOnes() {
        LentSundays x = Check.of(HOUSE);
        List<Integer> before = seen(x);
        for (int bad : numbers(-2, -1, 4, 7, 31, 32, LEAST, MOST)) {
            due("guest " + bad, x.letIn(bad, 0), false);
            due("sunday " + bad, x.letIn(0, bad), false);
        }
        due("guest 3", x.letIn(3, 0), false);
        due("sunday 2", x.letIn(0, 2), false);
        same("no such ones", x, before);
    }

    void promise10_falseForOneInNoSunday() {
        LentSundays x = Check.of(HOUSE);
        List<Integer> before = seen(x);
        due("never in", x.putOut(0), false);
        same("never in", x, before);
        x.letIn(0, 0);
        due("put out", x.putOut(0), true);
        due("things done", x.count(9), 2);
        before = seen(x);
        due("again", x.putOut(0), false);
        same("again", x, before);
        LentSundays d = withADeadGuest("sunday s 9 50;guest a 0 2 7;guest b 2 2 7;");
        before = seen(d);
        due("dead", d.putOut(0), false);
        same("dead", d, before);
    }

    void promise10_falseForNoSuchGuest() {
        LentSundays x = Check.of(HOUSE);
        x.letIn(0, 0);
        List<Integer> before = seen(x);
        for (int bad : numbers(-2, -1, 3, 6, 7, 32, LEAST, MOST)) {
            due("guest " + bad, x.putOut(bad), false);
        }
        same("no such guest", x, before);
    }

    private void notSold(String why, LentSundays x, int sunday) {
        List<Integer> before = seen(x);
        due(why, x.sell(sunday), -1);
        same(why, x, before);
    }

    void promise11_soldForSells() {
        LentSundays x = Check.of(HOUSE + "sells = if which < 1 then 0 else 100;");
        due("for nothing", x.sell(0), 0);
        due("no money", x.count(3), 0);
        due("for the most", x.sell(1), 99);
        due("money", x.count(3), 99);
        due("both", x.count(6), 3);
        due("things done", x.count(9), 2);
        LentSundays y = Check.of(HOUSE);
        due("for 5", y.sell(1), 5);
        due("for 7 more", y.sell(0), 7);
        due("money in all", y.count(3), 12);
    }

    void promise11_noneIfSomebodyIsInIt() {
        LentSundays x = Check.of(HOUSE);
        x.letIn(0, 0);
        notSold("somebody", x, 0);
        x.putOut(0);
        due("nobody", x.sell(0), 7);
    }

    void promise11_noneIfItIsSold() {
        LentSundays x = Check.of(HOUSE);
        x.sell(0);
        notSold("sold", x, 0);
    }

    void promise11_noneForNoSuchSunday() {
        LentSundays x = Check.of(HOUSE);
        List<Integer> before = seen(x);
        for (int bad : numbers(-2, -1, 2, 3, 4, 32, LEAST, MOST)) {
            due("sunday " + bad, x.sell(bad), -1);
        }
        same("no such Sunday", x, before);
    }

    /** Sunday 0 worn by 1, without guests, and so much money. */
    private static LentSundays worn(int money) {
        LentSundays x = Check.of(HOUSE + "rests = 0;pays = " + money + ";");
        x.letIn(0, 0);
        x.weeks(1);
        x.putOut(0);
        return x;
    }

    void promise12_airedFor1OfTheMoneyIfThereIsAny() {
        for (int money : numbers(0, 1, 2, 99)) {
            LentSundays x = worn(money);
            due("money", x.count(3), money);
            due("worn", x.sunday(0, 2), 1);
            due("aired", x.air(0), true);
            due("not worn", x.sunday(0, 2), 0);
            due("money of " + money, x.count(3), Math.max(0, money - 1));
            due("things done", x.count(9), 4);
        }
    }

    private void notAired(String why, LentSundays x, int sunday) {
        List<Integer> before = seen(x);
        due(why, x.air(sunday), false);
        same(why, x, before);
    }

    void promise12_falseIfNotWorn() {
        LentSundays x = worn(5);
        notAired("never worn", x, 1);
        x.air(0);
        notAired("aired", x, 0);
    }

    void promise12_falseIfSomebodyIsInIt() {
        LentSundays x = worn(5);
        x.letIn(1, 0);
        notAired("somebody", x, 0);
        x.putOut(1);
        due("nobody", x.air(0), true);
    }

    void promise12_falseIfSold() {
        LentSundays x = worn(5);
        x.sell(0);
        notAired("sold", x, 0);
    }

    void promise12_falseForNoSuchSunday() {
        LentSundays x = worn(5);
        List<Integer> before = seen(x);
        for (int bad : numbers(-2, -1, 2, 3, 4, 32, LEAST, MOST)) {
            due("sunday " + bad, x.air(bad), false);
        }
        same("no such Sunday", x, before);
    }

    void promise13_from0To40Weeks() {
        LentSundays x = Check.of(HOUSE + "rests = 0;");
        x.letIn(0, 0);
        due("0", x.weeks(0), 0);
        due("1", x.weeks(1), 1);
        due("39", x.weeks(39), 40);
        due("40", x.weeks(40), 80);
        due("0", x.weeks(0), 80);
        due("paid", x.count(3), 240);
        due("worn", x.sunday(0, 2), 80);
    }

    void promise13_0IsNoThingDone() {
        LentSundays x = Check.of(HOUSE);
        x.letIn(0, 0);
        List<Integer> before = seen(x);
        due("0", x.weeks(0), 0);
        same("0", x, before);
        x.undo();
        due("letIn is undone", x.count(4), 0);
    }

    void promise13_noneForNoSuchN() {
        LentSundays x = Check.of(HOUSE);
        x.letIn(0, 0);
        x.weeks(2);
        List<Integer> before = seen(x);
        for (int bad : numbers(-2, -1, 41, 42, 100, LEAST, MOST)) {
            due("n " + bad, x.weeks(bad), -1);
        }
        same("no such n", x, before);
    }

    void promise13_manyWeeksAreWeeksOneByOne() {
        String text = "sunday s 9 50;" + SEVEN + "death 9;rests = which + 1;wears = others;pays = worn + others;seed 77;";
        LentSundays x = Check.of(text);
        LentSundays y = Check.of(text);
        for (int g = 0; g < 7; g++) {
            x.letIn(g, 0);
            y.letIn(g, 0);
        }
        x.weeks(40);
        for (int i = 0; i < 40; i++) {
            y.weeks(1);
        }
        for (int what : numbers(2, 3, 4, 5, 12, 13)) {
            due("count " + what, x.count(what), y.count(what));
        }
        due("some are dead", x.count(5) != 0, true);
    }

    void promise14_falseIfThereIsNone() {
        LentSundays x = Check.of(HOUSE);
        List<Integer> before = seen(x);
        due("undo", x.undo(), false);
        same("none", x, before);
        x.letIn(0, 0);
        due("undo", x.undo(), true);
        due("undo", x.undo(), false);
        same("none left", x, before);
        due("a new object", new LentSundays().undo(), false);
    }

    void promise14_eachThingDoneIsUndone() {
        LentSundays x = Check.of("sunday s 6 7;sunday t 5 5;guest a 0 2 3;guest b 2 3 5;rests = 99;death 99;seed " + seedOf(0, 0, 0) + ";");
        List<List<Integer>> all = new java.util.ArrayList<>();
        all.add(seen(x));
        x.letIn(0, 0);
        all.add(seen(x));
        x.weeks(40);
        all.add(seen(x));
        due("one is dead", x.count(5), 1);
        x.sell(1);
        all.add(seen(x));
        x.air(0);
        all.add(seen(x));
        x.letIn(1, 0);
        all.add(seen(x));
        x.putOut(1);
        for (int i = all.size() - 1; i >= 0; i--) {
            due("undo", x.undo(), true);
            same("thing " + i, x, all.get(i));
        }
        due("no more", x.undo(), false);
    }

    void promise14_theLast40CanBeUndone() {
        LentSundays x = new LentSundays();
        for (int i = 0; i < 40; i++) {
            x.weeks(1);
        }
        due("40 things", x.count(9), 40);
        for (int i = 0; i < 40; i++) {
            due("undo", x.undo(), true);
        }
        due("all", x.count(2), 0);
        due("the 41st", x.undo(), false);
    }

    void promise14_the41stCanNot() {
        LentSundays x = new LentSundays();
        for (int i = 0; i < 41; i++) {
            x.weeks(2);
        }
        due("40 things", x.count(9), 40);
        for (int i = 0; i < 40; i++) {
            due("undo", x.undo(), true);
            due("week", x.count(2), 80 - 2 * i);
        }
        due("the 41st", x.undo(), false);
        due("week 2", x.count(2), 2);
    }

    void promise14_whatIsUndoneMakesRoomAgain() {
        LentSundays x = new LentSundays();
        for (int i = 0; i < 60; i++) {
            x.weeks(1);
        }
        for (int i = 0; i < 30; i++) {
            x.undo();
        }
        for (int i = 0; i < 35; i++) {
            x.weeks(1);
        }
        due("week", x.count(2), 65);
        due("40 things", x.count(9), 40);
        for (int i = 0; i < 40; i++) {
            due("undo", x.undo(), true);
        }
        due("week", x.count(2), 25);
        due("no more", x.undo(), false);
    }
}
