/** Promises 1 and 6 to 43, by answers that were worked out by hand from the document. */
public final class PromisesTest {
    private static final Check CHECK = new Check();
    private static final int LEAST = Integer.MIN_VALUE;
    private static final int MOST = Integer.MAX_VALUE;
    /** Two Sundays and four guests: ann 0-3, bob 4-6, cid 2-5, dan 7-11; ann and dan are foes. */
    private static final String HOUSE = "sunday mild 12 20; sunday wet 8 9; guest ann 0 4 10; guest bob 4 3 8;"
        + "guest cid 2 4 15; guest dan 7 5 7; foes ann dan; ";

    public static void main(String[] args) {
        newObject();
        sundayAndItsLaws();
        guestAndTheirLaws();
        lawsAsTheyAreReckoned();
        at();
        letInAndPutOut();
        sellAndAir();
        weeksAndDeaths();
        undo();
        alone();
        letting();
        fewest();
        coloursAndTangle();
        fittingAndRoom();
        rowAndChange();
        payerAndIdle();
        usedAndFirst();
        gap();
        priceAndBest();
        wearyAndEarned();
        rivals();
        thenWornInAndYear();
        toldOnes();
        holdAndRestore();
        count();
        CHECK.end("PromisesTest");
    }

    private static void due(String what, int got, int want) {
        CHECK.due(what, got, want);
    }

    private static void due(String what, boolean got, boolean want) {
        CHECK.due(what, got, want);
    }

    private static void newObject() {
        LentSundays x = new LentSundays();
        for (int what = 0; what < 19; what++) {
            due("promise 1: count " + what, x.count(what), 0);
        }
        due("promise 1: sunday", x.sunday(0, 0), -1);
        due("promise 1: guest", x.guest(0, 0), -1);
        due("promise 1: place", x.place(), -1);
        due("promise 1: another is by itself", Check.of(HOUSE).count(0) + new LentSundays().count(0), 2);
        due("the constant", LentSundays.NONE, -1);
    }

    private static void sundayAndItsLaws() {
        LentSundays x = Check.of("sunday s 10 30; sunday t 5 40; guest g 1 3 7; guest h 6 2 9;"
            + "wears = hours + others * 10 + which + fee + hour + rested;"
            + "sells = worth - worn + week + which * 100 + hours + others + fee + hour + rested;");
        due("promise 6: long", x.sunday(0, 0), 10);
        due("promise 6: worth", x.sunday(1, 1), 40);
        due("promise 6: wears of nobody", x.sunday(0, 5), 0);
        due("promise 6: sells held to 99", x.sunday(1, 6), 99);
        due("promise 6: sells", x.sunday(0, 6), 30);
        x.letIn(0, 0);
        x.letIn(1, 0);
        due("promise 6: guests", x.sunday(0, 4), 3);
        due("promise 6: no guests", x.sunday(1, 4), 0);
        due("promise 6: wears by hours and guests", x.sunday(0, 5), 25);
        due("promise 6: sells by hours and guests", x.sunday(0, 6), 37);
        x.weeks(1);
        due("promise 6: worn", x.sunday(0, 2), 25);
        due("promise 6: not worn", x.sunday(1, 2), 0);
        due("promise 6: sells by worn and week", x.sunday(0, 6), 13);
        x.weeks(3);
        due("promise 6: worn by 99 at most", x.sunday(0, 2), 99);
        due("promise 6: sells held to 0", x.sunday(0, 6), 0);
        due("promise 6: not sold", x.sunday(1, 3), 0);
        x.sell(1);
        due("promise 6: sold", x.sunday(1, 3), 1);
        due("promise 6: sells of a sold one", x.sunday(1, 6), 99);
        for (int bad : new int[] {-1, 7, 8, LEAST, MOST}) {
            due("promise 6: what " + bad, x.sunday(0, bad), -1);
        }
        for (int bad : new int[] {-1, 2, 4, LEAST, MOST}) {
            due("promise 6: sunday " + bad, x.sunday(bad, 0), -1);
        }
        LentSundays y = Check.of("sunday s 9 30; guest g 1 3 7;");
        y.letIn(0, 0);
        due("promise 6: WEARS if not told", y.sunday(0, 5), 1);
        due("promise 6: SELLS if not told", y.sunday(0, 6), 30);
    }

    private static void guestAndTheirLaws() {
        LentSundays x = Check.of("sunday q 9 1; sunday s 20 2; guest a 1 2 3; guest b 5 4 9; guest c 10 1 0;"
            + "pays = fee + hours * 2 + hour * 3 + which * 4 + others * 5 + worth;"
            + "rests = week * 10 + rested + worn * 20 + 1; wears = 2; death 999;");
        due("promise 7: from which", x.guest(1, 0), 5);
        due("promise 7: for how many", x.guest(1, 1), 4);
        due("promise 7: fee", x.guest(1, 2), 9);
        due("promise 7: in none", x.guest(1, 3), -2);
        due("promise 7: pays in none", x.guest(1, 6), 0);
        due("promise 7: rests in none", x.guest(1, 7), 0);
        x.letIn(0, 1);
        x.letIn(1, 1);
        x.letIn(2, 1);
        due("promise 7: in which", x.guest(1, 3), 1);
        due("promise 7: pays", x.guest(1, 6), 9 + 8 + 15 + 4 + 10 + 2);
        due("promise 7: rests", x.guest(1, 7), 1);
        x.weeks(1);
        due("promise 7: rested", x.guest(1, 4), 1);
        due("promise 7: rests by week, rested, worn", x.guest(1, 7), 10 + 1 + 40 + 1);
        x.weeks(1);
        due("promise 7: rested by as the week began", x.guest(1, 4), 53);
        due("promise 7: rests held to 99", x.guest(1, 7), 99);
        due("promise 7: not dead", x.guest(1, 5), 0);
        for (int bad : new int[] {-1, 8, 9, LEAST, MOST}) {
            due("promise 7: what " + bad, x.guest(0, bad), -1);
        }
        for (int bad : new int[] {-1, 3, 7, LEAST, MOST}) {
            due("promise 7: guest " + bad, x.guest(bad, 0), -1);
        }
        LentSundays y = Check.of("sunday q 9 1; guest a 1 2 33;");
        y.letIn(0, 0);
        due("promise 7: PAYS if not told", y.guest(0, 6), 33);
        due("promise 7: RESTS if not told", y.guest(0, 7), 2);
    }

    private static void pays(String law, int want) {
        LentSundays x = Check.of("sunday q 24 50; guest z 20 1 1; guest a 3 2 7; pays = " + law + ";");
        x.letIn(1, 0);
        due("PAYS = " + law, x.guest(1, 6), want);
    }

    private static void lawsAsTheyAreReckoned() {
        pays("2 + 3 * 4", 14);
        pays("20 - 3 - 4", 13);
        pays("(2 + 3) * 4", 20);
        pays("100 / 7 / 2", 7);
        pays("7 * 3 / 2", 10);
        pays("(0 - 7) / 2 + 10", 7);
        pays("7 / (0 - 2) + 10", 7);
        pays("0 - 5", 0);
        pays("100", 99);
        pays("99", 99);
        pays("50 + 1 / 0", 0);
        pays("50 + 0 * (1 / 0)", 0);
        pays("fee / (hours - 2)", 0);
        pays("9999 * 9999 * 9999 / 9999 / 9999 + 60", 50);
        pays("(0 - 2048 * 1024 * 1024) / (0 - 1) + 9 + 2048 * 1024 * 1024 - 4", 5);
        pays("if 1 < 2 then 3 else 4", 3);
        pays("if 2 < 2 then 3 else 4", 4);
        pays("if 3 < 2 then 3 else if 0 - 1 < 0 then 5 else 6", 5);
        pays("if 1 < 2 then 5 else 1 / 0", 5);
        pays("if 2 < 1 then 1 / 0 else 6", 6);
        pays("if 1 / 0 < 1 then 5 else 6", 0);
        pays("if 1 < 1 / 0 then 5 else 6", 0);
        pays("if 1 < 2 then 7 else if 1 / 0 < 1 then 5 else 6", 7);
        pays("if 2 < 1 then 7 else if 1 / 0 < 1 then 5 else 6", 0);
        pays("if hour < hours then 1 else if week < which then 40 + which else 3", 41);
        pays("1; pays = 2", 2);
        pays("1 - (1 - (1 - (1 - (1 - (1 - 1 * 1)))))", 1);
        pays("if " + deep(0) + " < " + deep(1) + " then 8 else 9", 8);
        pays("if " + deep(1) + " < " + deep(0) + " then 8 else 9", 9);
        pays(deep(0) + " / 9999", 65);
        pays(deep(1) + " / 9999 - 90", 40);
        String not = "if 4 < 2 then 8 else ";
        pays(not + not + not + not + deep(0) + " / 9999", 65);
        pays(not + not + not + "if 3 < 4 then " + deep(0) + " / 9999 else 1", 65);
        LentSundays x = Check.of("sunday q 24 50; sells = 7" + "+1-1".repeat(97) + "+2;");
        due("a law that takes nearly all tokens", x.sunday(0, 6), 9);
    }

    /** As many open values as there can be; 645119 of 0, 1290239 of 1. */
    private static String deep(int last) {
        return "1 + 2 * (3 + 4 * (5 + 6 * (7 + 8 * (9 + 10 * (11 + 12 * (13 + 14 * " + last + "))))))";
    }

    private static void at() {
        LentSundays x = Check.of(HOUSE);
        x.letIn(2, 0);
        x.letIn(3, 0);
        int[] want = {-2, -2, 2, 2, 2, 2, -2, 3, 3, 3, 3, 3};
        for (int h = 0; h < 12; h++) {
            due("promise 8: hour " + h, x.at(0, h), want[h]);
        }
        due("promise 8: another Sunday", x.at(1, 3), -2);
        due("promise 8: beyond its hours", x.at(0, 12), -1);
        due("promise 8: beyond its hours", x.at(1, 8), -1);
        for (int bad : new int[] {-1, 24, LEAST, MOST}) {
            due("promise 8: hour " + bad, x.at(0, bad), -1);
            due("promise 8: sunday " + bad, x.at(bad, 0), -1);
        }
        due("promise 8: no such Sunday", x.at(2, 0), -1);
    }

    private static void letInAndPutOut() {
        LentSundays x = Check.of(HOUSE);
        due("promise 9: does not fit", x.letIn(3, 1), false);
        due("promise 9: let in", x.letIn(0, 0), true);
        due("promise 9: in one", x.letIn(0, 0), false);
        due("promise 9: in one, to another", x.letIn(0, 1), false);
        due("promise 9: a foe", x.letIn(3, 0), false);
        due("promise 9: an hour in common", x.letIn(2, 0), false);
        due("promise 9: side by side", x.letIn(1, 0), true);
        due("promise 9: nobody there", x.letIn(2, 1), true);
        for (int bad : new int[] {-1, 4, 7, LEAST, MOST}) {
            due("promise 9: guest " + bad, x.letIn(bad, 0), false);
            due("promise 9: sunday " + bad, x.letIn(3, bad), false);
            due("promise 10: guest " + bad, x.putOut(bad), false);
        }
        due("promise 9: things done", x.count(9), 3);
        due("promise 10: in none", x.putOut(3), false);
        due("promise 10: put out", x.putOut(0), true);
        due("promise 10: out", x.guest(0, 3), -2);
        due("promise 10: the other stays", x.sunday(0, 4), 2);
        due("promise 10: again", x.putOut(0), false);
        due("promise 9: no foe there now", x.letIn(3, 0), true);
        due("promise 10: things done", x.count(9), 5);
        LentSundays y = Check.of("sunday s 10 5; guest g 0 10 1; guest h 0 10 1; death 1; rests = 99;");
        due("promise 9: just long enough", y.letIn(0, 0), true);
        y.weeks(1);
        due("promise 9: dead", y.letIn(0, 0), false);
        due("promise 10: dead", y.putOut(0), false);
        due("promise 11: sold", y.sell(0), 5);
        due("promise 9: a sold one", y.letIn(1, 0), false);
        LentSundays z = Check.of("sunday s 24 5; guest g 20 5 1; guest h 20 4 1;");
        due("promise 9: hours do not go round", z.letIn(0, 0), false);
        due("promise 9: to the last hour", z.letIn(1, 0), true);
    }

    private static void sellAndAir() {
        LentSundays x = Check.of("sunday s 10 5; sunday t 9 60; guest g 0 2 1; sells = worth - worn; wears = 3;");
        due("promise 12: not worn", x.air(0), false);
        x.letIn(0, 0);
        x.weeks(2);
        due("promise 11: somebody is in it", x.sell(0), -1);
        due("promise 12: somebody is in it", x.air(0), false);
        x.putOut(0);
        int done = x.count(9);
        due("promise 12: aired", x.air(0), true);
        due("promise 12: not worn then", x.sunday(0, 2), 0);
        due("promise 12: for 1", x.count(3), 1);
        due("promise 12: again", x.air(0), false);
        due("promise 12: one thing done", x.count(9), done + 1);
        due("promise 11: sold for", x.sell(1), 60);
        due("promise 11: money", x.count(3), 61);
        due("promise 11: again", x.sell(1), -1);
        due("promise 11: which are sold", x.count(6), 2);
        due("promise 11: one thing done", x.count(9), done + 2);
        for (int bad : new int[] {-1, 2, 4, LEAST, MOST}) {
            due("promise 11: sunday " + bad, x.sell(bad), -1);
            due("promise 12: sunday " + bad, x.air(bad), false);
        }
        LentSundays y = Check.of("sunday s 10 5; sunday t 9 60; guest g 0 2 0; wears = 3; sells = worth - worn;");
        y.letIn(0, 0);
        y.weeks(1);
        y.putOut(0);
        due("promise 12: aired without money", y.air(0), true);
        due("promise 12: no money", y.count(3), 0);
        LentSundays one = Check.of("sunday s 10 5; guest g 0 2 1;");
        one.letIn(0, 0);
        one.weeks(1);
        one.putOut(0);
        due("promise 12: aired for the last money", one.air(0), true);
        due("promise 12: no money then", one.count(3), 0);
        y.letIn(0, 1);
        y.weeks(1);
        y.putOut(0);
        due("promise 11: sold worn", y.sell(1), 57);
        due("promise 12: a sold one", y.air(1), false);
        due("promise 12: a sold one stays worn", y.sunday(1, 2), 3);
    }

    private static void weeksAndDeaths() {
        LentSundays x = Check.of("sunday s 10 5; guest a 0 2 9; guest b 3 1 4; rests = 7; death 999;");
        due("promise 13: 0 is nothing", x.weeks(0), 0);
        due("promise 13: 0 is no thing done", x.count(9), 0);
        x.letIn(0, 0);
        due("promise 13: weeks", x.weeks(3), 3);
        due("promise 13: paid", x.count(3), 27);
        due("promise 13: rested", x.guest(0, 4), 21);
        due("promise 13: worn", x.sunday(0, 2), 3);
        due("promise 13: not below 0", x.guest(1, 4), 0);
        x.putOut(0);
        due("promise 13: most", x.weeks(5), 8);
        due("promise 13: less rested", x.guest(0, 4), 16);
        due("promise 13: no more worn", x.sunday(0, 2), 3);
        due("promise 13: 40", x.weeks(40), 48);
        due("promise 13: not rested at all", x.guest(0, 4), 0);
        for (int bad : new int[] {-1, 41, LEAST, MOST}) {
            due("promise 13: weeks " + bad, x.weeks(bad), -1);
        }
        due("promise 13: nothing happened", x.count(2), 48);
        deathsByLot();
        LentSundays y = Check.of("sunday s 10 5; guest a 0 2 9; rests = 99; death 999; seed 1;");
        y.letIn(0, 0);
        y.weeks(11);
        due("promise 13: rested by 999 at most", y.guest(0, 4), 999);
    }

    /** With one hour of rest and DEATH 1 one dies by a LOT below 10. */
    private static void deathsByLot() {
        String dying = "sunday s 10 5; guest a 0 2 9; rests = 1; death 1; seed ";
        int[][] seedsAndDead = {{0, 0}, {6, 1}, {16, 1}, {13, 0}, {19, 0}, {7, 1}, {11, 1}, {14, 0}};
        for (int[] pair : seedsAndDead) {
            LentSundays x = Check.of(dying + pair[0] + ";");
            x.letIn(0, 0);
            x.weeks(1);
            due("promise 13: dead by seed " + pair[0], x.guest(0, 5), pair[1]);
            due("promise 13: where by seed " + pair[0], x.guest(0, 3), pair[1] == 1 ? -2 : 0);
            due("promise 13: paid all the same", x.count(3), 9);
            due("promise 13: worn all the same", x.sunday(0, 2), 1);
            x.weeks(0);
        }
        String third = "sunday s 10 5; guest a 0 1 1; guest b 1 1 1; guest c 2 1 9; rests = 1; death 1; seed ";
        int[][] inWeekOne = {{195, 1}, {378, 1}, {83, 0}, {198, 0}};
        for (int[] pair : inWeekOne) {
            LentSundays x = Check.of(third + pair[0] + ";");
            x.weeks(1);
            x.letIn(2, 0);
            x.weeks(1);
            due("promise 13: guest 2 in week 1 by seed " + pair[0], x.guest(2, 5), pair[1]);
        }
        LentSundays y = Check.of("sunday s 10 5; guest a 0 2 9; rests = 50; death 51; seed 7;");
        y.letIn(0, 0);
        y.weeks(1);
        due("promise 13: not rested enough to die", y.guest(0, 5), 0);
        y.weeks(2);
        due("promise 13: by 59 and 109 beyond", y.guest(0, 5), 1);
        int rested = y.guest(0, 4);
        y.weeks(10);
        due("promise 13: the dead stay as rested", y.guest(0, 4), rested);
    }

    private static void undo() {
        LentSundays x = Check.of("sunday s 10 5; sunday t 9 60; guest a 0 2 9; guest b 3 1 4; rests = 99; death 99; seed 6;");
        due("promise 14: none", x.undo(), false);
        x.letIn(0, 0);
        x.weeks(2);
        due("promise 14: dead", x.count(5), 1);
        x.sell(1);
        x.air(0);
        due("promise 14: things", x.count(9), 4);
        due("promise 14: air", x.undo(), true);
        due("promise 14: worn again", x.sunday(0, 2), 1);
        due("promise 14: money again", x.count(3), 69);
        x.undo();
        due("promise 14: sell", x.count(6), 0);
        due("promise 14: money again", x.count(3), 9);
        x.undo();
        due("promise 14: weeks", x.count(2), 0);
        due("promise 14: lives again", x.count(5), 0);
        due("promise 14: in again", x.count(4), 1);
        due("promise 14: rested", x.guest(0, 4), 0);
        x.putOut(0);
        x.undo();
        due("promise 14: putOut", x.count(4), 1);
        x.undo();
        due("promise 14: letIn", x.count(4), 0);
        due("promise 14: none left", x.undo(), false);
        for (int i = 1; i <= 45; i++) {
            x.weeks(1);
            due("promise 14: things " + i, x.count(9), Math.min(i, 40));
        }
        for (int i = 1; i <= 40; i++) {
            due("promise 14: undo " + i, x.undo(), true);
            due("promise 14: week", x.count(2), 45 - i);
        }
        due("promise 14: the 41st", x.undo(), false);
        due("promise 14: stays", x.count(2), 5);
    }

    private static void alone() {
        LentSundays x = Check.of(HOUSE + "pays = fee - others * 50 + worn;");
        due("promise 15: how much", x.alone(0, 0), 22);
        due("promise 15: who", x.alone(0, 1), 12);
        due("promise 15: how much", x.alone(1, 0), 18);
        due("promise 15: who", x.alone(1, 1), 3);
        x.letIn(2, 1);
        x.weeks(1);
        due("promise 15: worn as now, wherever they are", x.alone(1, 0), 20);
        due("promise 15: sold", x.sell(0), 20);
        due("promise 15: nobody fits a sold one", x.alone(0, 0), 0);
        due("promise 15: nobody fits a sold one", x.alone(0, 1), 0);
        for (int bad : new int[] {-1, 2, LEAST, MOST}) {
            due("promise 15: sunday " + bad, x.alone(bad, 0), -1);
            due("promise 15: what " + bad, x.alone(0, bad), -1);
        }
        LentSundays y = Check.of("sunday s 10 5; guest a 0 4 5; guest b 1 2 3; guest c 3 2 2; guest d 6 1 0;");
        due("promise 15: as much", y.alone(0, 0), 5);
        due("promise 15: the least bits", y.alone(0, 1), 1);
        LentSundays z = Check.of("sunday s 10 5; guest b 1 2 3; guest c 3 2 2; guest a 0 5 5;");
        due("promise 15: the least bits", z.alone(0, 1), 3);
        LentSundays d = Check.of("sunday s 10 5; guest a 0 2 9; guest b 4 2 3; rests = 99; death 1;");
        d.letIn(0, 0);
        d.weeks(1);
        due("promise 15: the dead are none", d.alone(0, 0), 3);
    }

    private static void letting() {
        LentSundays x = Check.of("sunday s 5 1; sunday t 24 1; guest a 0 3 1; guest b 20 4 1; guest c 1 2 1; guest d 20 5 1;");
        due("promise 16: how much", x.letting(-1), 3);
        due("promise 16: the last, least bits", x.letting(1), 3);
        due("promise 16: the one ahead", x.letting(0), 4);
        LentSundays y = Check.of("sunday s 10 9; sunday t 10 3; sunday u 10 5; guest a 0 2 1; guest b 1 2 1; guest c 4 2 0; pays = worth + fee;");
        due("promise 16: by worth", y.letting(-1), 10 + 6 + 9);
        due("promise 16: the first, b and c", y.letting(0), 6);
        due("promise 16: by worth", y.letting(1), 0);
        due("promise 16: by worth, a in the last", y.letting(2), 1);
        y.sell(0);
        due("promise 16: not in a sold one", y.letting(0), 0);
        due("promise 16: not in a sold one", y.letting(-1), 6 + 5 + 4);
        due("promise 16: least bits in the last", y.letting(2), 5);
        due("promise 16: the other", y.letting(1), 2);
        LentSundays o = Check.of("sunday s 10 9; guest a 0 2 7; guest b 4 2 5; pays = fee - others;");
        due("promise 16: others 0", o.letting(-1), 12);
        for (int bad : new int[] {-2, 3, 4, LEAST, MOST}) {
            due("promise 16: sunday " + bad, y.letting(bad), -1);
        }
        LentSundays d = Check.of("sunday s 10 5; guest a 0 2 9; guest b 4 2 3; rests = 99; death 1;");
        d.letIn(0, 0);
        d.weeks(1);
        due("promise 16: the dead are none", d.letting(-1), 3);
        due("promise 16: the dead are none", d.letting(0), 2);
    }

    private static void fewest() {
        String three = "sunday s 5 1; sunday t 20 1; sunday u 20 1; ";
        LentSundays x = Check.of(three + "guest a 0 3 1; guest b 10 4 1;");
        due("promise 17: one", x.fewest(0), 1);
        due("promise 17: the least bits", x.fewest(1), 2);
        LentSundays y = Check.of(three + "guest a 10 3 1; guest b 10 4 1; guest c 1 1 0;");
        due("promise 17: two", y.fewest(0), 2);
        due("promise 17: not the short one", y.fewest(1), 6);
        LentSundays z = Check.of(three + "guest a 1 3 1; guest b 1 3 1; guest c 1 1 0; guest d 19 1 1;");
        due("promise 17: three", z.fewest(0), 3);
        due("promise 17: three", z.fewest(1), 7);
        z.letIn(0, 0);
        due("promise 17: wherever they are", z.fewest(0), 3);
        z.sell(1);
        due("promise 17: not in all", z.fewest(0), -2);
        due("promise 17: not in all", z.fewest(1), -2);
        for (int bad : new int[] {-1, 2, LEAST, MOST}) {
            due("promise 17: what " + bad, z.fewest(bad), -1);
        }
        LentSundays none = Check.of("guest a 1 3 1;");
        due("promise 17: no Sundays", none.fewest(0), -2);
        LentSundays nobody = Check.of(three);
        due("promise 17: nobody", nobody.fewest(0), 0);
        due("promise 17: nobody", nobody.fewest(1), 0);
        LentSundays d = Check.of("sunday s 10 5; guest a 0 2 9; guest b 0 2 3; rests = 99; death 1;");
        due("promise 17: both", d.fewest(0), -2);
        d.letIn(0, 0);
        d.weeks(1);
        due("promise 17: the dead are none", d.fewest(0), 1);
    }

    private static void coloursAndTangle() {
        String ring = "guest a 0 1 1; guest b 1 1 1; guest c 2 1 1; guest d 3 1 1; guest e 4 1 1; guest f 9 1 1;"
            + "foes a b; foes b c; foes c d; foes d e; foes e a;";
        LentSundays x = Check.of(ring);
        due("promise 18: a ring of five", x.colours(), 3);
        due("promise 19: a ring of five", x.tangle(0), 2);
        due("promise 19: the least bits", x.tangle(1), 3);
        LentSundays y = Check.of("guest z 20 1 0; guest a 0 5 1; guest b 4 5 1; guest c 3 2 1; guest d 8 5 1;");
        due("promise 18: three in one hour", y.colours(), 3);
        due("promise 19: three in one hour", y.tangle(0), 3);
        due("promise 19: three in one hour", y.tangle(1), 14);
        LentSundays z = Check.of("guest a 0 1 1; guest b 1 1 1;");
        due("promise 18: one set", z.colours(), 1);
        due("promise 19: one by itself", z.tangle(0), 1);
        due("promise 19: the first", z.tangle(1), 1);
        LentSundays seven = Check.of("guest a 0 1 1; guest b 0 1 1; guest c 0 1 1; guest d 0 1 1; guest e 0 1 1; guest f 0 1 1; guest g 0 1 1;");
        due("promise 18: seven", seven.colours(), 7);
        due("promise 19: seven", seven.tangle(1), 127);
        for (int bad : new int[] {-1, 2, LEAST, MOST}) {
            due("promise 19: what " + bad, seven.tangle(bad), -1);
        }
        LentSundays late = Check.of("guest a 23 12 1; guest b 0 11 1; guest c 23 1 1;");
        due("promise 18: hours do not go round", late.colours(), 2);
        due("promise 19: hours do not go round", late.tangle(1), 5);
        LentSundays d = Check.of("sunday s 9 1; guest a 0 2 1; guest b 1 2 1; guest c 4 1 1; rests = 99; death 1;");
        due("promise 18: two", d.colours(), 2);
        d.letIn(0, 0);
        d.weeks(1);
        due("promise 18: the dead are none", d.colours(), 1);
        due("promise 19: the dead are none", d.tangle(1), 2);
    }

    private static void fittingAndRoom() {
        LentSundays x = Check.of(HOUSE + "rests = 99; death 1;");
        due("promise 20: both", x.fitting(0), 3);
        due("promise 20: just the longer", x.fitting(3), 1);
        due("promise 28: both", x.room(0), 3);
        x.letIn(0, 0);
        due("promise 20: wherever they are", x.fitting(0), 3);
        due("promise 28: were they in none", x.room(0), 3);
        due("promise 28: a foe is there", x.room(3), 0);
        due("promise 28: one clashes there", x.room(2), 2);
        due("promise 28: side by side", x.room(1), 3);
        x.sell(1);
        due("promise 20: not a sold one", x.fitting(2), 1);
        due("promise 28: not a sold one", x.room(1), 1);
        x.weeks(1);
        due("promise 20: dead or not", x.fitting(0), 1);
        due("promise 28: dead", x.room(0), 0);
        due("promise 28: the foe is gone", x.room(3), 1);
        for (int bad : new int[] {-1, 4, 7, LEAST, MOST}) {
            due("promise 20: guest " + bad, x.fitting(bad), -1);
            due("promise 28: guest " + bad, x.room(bad), -1);
        }
    }

    private static void rowAndChange() {
        LentSundays x = Check.of("sunday s 20 1; sunday t 20 1; sunday u 5 1; guest a 8 2 1; guest b 4 2 1; guest c 0 2 1;"
            + "guest d 8 2 1; guest e 5 1 1; guest f 12 2 1; foes a f;");
        x.letIn(0, 0);
        x.letIn(1, 0);
        x.letIn(2, 0);
        due("promise 21: the first", x.row(0, 0), 2);
        due("promise 21: the second", x.row(0, 1), 1);
        due("promise 21: the third", x.row(0, 2), 0);
        due("promise 21: not so many", x.row(0, 3), -1);
        due("promise 21: nobody", x.row(1, 0), -1);
        for (int bad : new int[] {-1, 3, LEAST, MOST}) {
            due("promise 21: sunday " + bad, x.row(bad, 0), -1);
            due("promise 21: the " + bad, x.row(0, bad), -1);
        }
        due("promise 22: one in none", x.change(0, 3), -1);
        x.letIn(3, 1);
        due("promise 22: both could", x.change(0, 3), 1);
        due("promise 22: the other way round", x.change(3, 0), 1);
        due("promise 22: one clashes with one who stays", x.change(1, 3), 0);
        due("promise 22: in one Sunday", x.change(0, 1), -1);
        due("promise 22: themselves", x.change(0, 0), -1);
        x.letIn(5, 1);
        due("promise 22: a foe is there", x.change(0, 3), 0);
        due("promise 22: foes may change", x.change(0, 5), 0);
        x.putOut(3);
        due("promise 22: foes may change", x.change(0, 5), 1);
        x.putOut(2);
        x.letIn(2, 2);
        due("promise 22: not long enough", x.change(2, 1), 0);
        for (int bad : new int[] {-1, 6, 7, LEAST, MOST}) {
            due("promise 22: guest " + bad, x.change(bad, 5), -1);
            due("promise 22: other " + bad, x.change(5, bad), -1);
        }
    }

    private static void payerAndIdle() {
        LentSundays x = Check.of("sunday s 20 1; sunday t 10 1; guest a 8 2 0; guest b 4 2 6; guest c 0 2 6; guest d 1 2 4; pays = fee - others;");
        due("promise 23: nobody", x.payer(0), -2);
        due("promise 23: nobody", x.payer(1), -2);
        due("promise 24: all", x.idle(), 30);
        x.letIn(0, 0);
        due("promise 23: who pays 0", x.payer(0), 0);
        due("promise 23: 0", x.payer(1), 0);
        x.letIn(2, 0);
        x.letIn(1, 0);
        due("promise 23: the first of alike ones", x.payer(0), 1);
        due("promise 23: how much, others there", x.payer(1), 4);
        x.letIn(3, 1);
        due("promise 23: still the first", x.payer(0), 1);
        due("promise 24: hours of nobody", x.idle(), 22);
        x.putOut(3);
        x.sell(1);
        due("promise 24: not of sold ones", x.idle(), 14);
        for (int bad : new int[] {-1, 2, LEAST, MOST}) {
            due("promise 23: what " + bad, x.payer(bad), -1);
        }
    }

    private static void usedAndFirst() {
        LentSundays x = Check.of("sunday s 20 1; sunday t 10 1; guest a 8 2 0; guest b 4 3 6; guest c 20 1 1; wears = week + 1; death 20; seed 6;");
        due("promise 25: not", x.used(0, 1), -2);
        due("promise 26: not", x.first(0), -2);
        due("promise 26: nobody", x.first(1), -2);
        x.letIn(0, 0);
        due("promise 25: 1", x.used(0, 1), 1);
        due("promise 25: 1 and 2 and 3", x.used(0, 6), 3);
        due("promise 25: and 4", x.used(0, 7), 4);
        due("promise 25: 99", x.used(0, 99), 14);
        due("promise 25: another", x.used(1, 1), -2);
        due("promise 26: behind", x.first(0), 10);
        due("promise 26: who", x.first(1), 0);
        x.letIn(1, 1);
        due("promise 26: sooner", x.first(0), 7);
        due("promise 26: who", x.first(1), 1);
        due("nothing happened", x.count(2) + x.count(12) + x.count(13), 0);
        x.weeks(3);
        due("promise 25: now", x.used(0, 6), 0);
        for (int bad : new int[] {-1, 0, 100, LEAST, MOST}) {
            due("promise 25: by " + bad, x.used(0, bad), -1);
        }
        for (int bad : new int[] {-1, 2, 4, LEAST, MOST}) {
            due("promise 25: sunday " + bad, x.used(bad, 1), -1);
            due("promise 26: what " + bad, x.first(bad), -1);
        }
        LentSundays y = Check.of("sunday s 20 1; guest a 8 2 0; guest b 4 2 6; rests = 1; death 100; wears = if week < 99 then 0 else 1;");
        y.letIn(1, 0);
        y.letIn(0, 0);
        due("promise 25: behind 100", y.used(0, 1), 100);
        due("promise 26: behind 100", y.first(0), 100);
        due("promise 26: the first of alike ones", y.first(1), 0);
        LentSundays z = Check.of("sunday s 20 1; guest b 4 2 6; rests = 1; death 101; wears = if week < 100 then 0 else 1;");
        z.letIn(0, 0);
        due("promise 25: not within 100", z.used(0, 1), -2);
        due("promise 26: not within 100", z.first(0), -2);
        due("promise 31: not within 100", z.weary(0), -2);
        LentSundays d = Check.of("sunday s 20 1; guest a 8 2 0; guest b 4 2 6; rests = 99; death 1;");
        d.letIn(0, 0);
        d.weeks(1);
        due("promise 26: the dead are none", d.first(0), -2);
        d.letIn(1, 0);
        due("promise 26: another", d.first(1), 1);
    }

    private static void gap() {
        LentSundays x = Check.of("sunday s 12 1; sunday t 3 1; guest a 3 2 0; guest b 8 1 6; guest c 0 3 6; guest d 9 3 1; guest e 5 3 1; guest f 3 2 1;");
        due("promise 27: all", x.gap(0, 0), 12);
        due("promise 27: from 0", x.gap(0, 1), 0);
        x.letIn(0, 0);
        x.letIn(1, 0);
        due("promise 27: three hours, thrice", x.gap(0, 0), 3);
        due("promise 27: the first", x.gap(0, 1), 0);
        x.letIn(2, 0);
        due("promise 27: the second", x.gap(0, 1), 5);
        x.letIn(4, 0);
        due("promise 27: to the end", x.gap(0, 1), 9);
        x.letIn(3, 0);
        due("promise 27: none", x.gap(0, 0), 0);
        due("promise 27: none", x.gap(0, 1), -2);
        x.sell(1);
        due("promise 27: of a sold one", x.gap(1, 0), 3);
        for (int bad : new int[] {-1, 2, LEAST, MOST}) {
            due("promise 27: sunday " + bad, x.gap(bad, 0), -1);
            due("promise 27: what " + bad, x.gap(0, bad), -1);
        }
    }

    private static void priceAndBest() {
        LentSundays x = Check.of("sunday s 12 50; sunday t 3 1; guest a 3 2 0; wears = 3;"
            + "sells = if week < 6 then worth - worn + week * 4 + others else worth - worn; death 1; rests = 99;");
        due("promise 29: now", x.price(0, 0), 50);
        due("promise 29: not worn", x.price(0, 5), 70);
        x.letIn(0, 0);
        due("promise 29: worn, guests go on", x.price(0, 5), 50 - 15 + 20 + 1);
        due("promise 29: then", x.price(0, 6), 32);
        due("promise 29: 40", x.price(0, 40), 0);
        due("promise 30: when", x.best(0, 40, 0), 5);
        due("promise 30: how much", x.best(0, 40, 1), 56);
        due("promise 30: of fewer", x.best(0, 3, 0), 3);
        due("promise 30: of none", x.best(0, 0, 0), 0);
        due("promise 30: of none", x.best(0, 0, 1), 51);
        due("nothing happened", x.count(2), 0);
        for (int bad : new int[] {-1, 41, LEAST, MOST}) {
            due("promise 29: n " + bad, x.price(0, bad), -1);
            due("promise 30: n " + bad, x.best(0, bad, 0), -1);
        }
        for (int bad : new int[] {-1, 2, 4, LEAST, MOST}) {
            due("promise 29: sunday " + bad, x.price(bad, 0), -1);
            due("promise 30: sunday " + bad, x.best(bad, 0, 0), -1);
            due("promise 30: what " + bad, x.best(0, 0, bad), -1);
        }
        x.sell(1);
        due("promise 29: sold", x.price(1, 0), -1);
        due("promise 30: sold", x.best(1, 0, 0), -1);
        LentSundays y = Check.of("sunday s 12 50; sells = if week < 2 then 4 else if week < 9 then 5 else 5;");
        due("promise 30: the first of alike ones", y.best(0, 20, 0), 2);
        due("promise 30: alike from the first on", y.best(0, 1, 0), 0);
    }

    private static void wearyAndEarned() {
        LentSundays x = Check.of("sunday s 12 50; guest a 3 2 10; guest b 0 3 5; death 10; rests = hours; pays = fee - rested; seed 0;");
        due("promise 31: not", x.weary(0), -2);
        due("promise 32: nothing", x.earned(40), 0);
        x.letIn(0, 0);
        x.letIn(1, 0);
        due("promise 31: behind", x.weary(0), 5);
        due("promise 31: behind", x.weary(1), 4);
        due("promise 32: 0", x.earned(0), 0);
        due("promise 32: 1", x.earned(1), 15);
        due("promise 32: less and less, no deaths", x.earned(40), 10 + 8 + 6 + 4 + 2 + 5 + 2);
        x.weeks(1);
        due("promise 32: without what is there", x.earned(1), 10);
        due("promise 31: behind one less", x.weary(0), 4);
        for (int bad : new int[] {-1, 41, LEAST, MOST}) {
            due("promise 32: n " + bad, x.earned(bad), -1);
        }
        for (int bad : new int[] {-1, 2, 7, LEAST, MOST}) {
            due("promise 31: guest " + bad, x.weary(bad), -1);
        }
        LentSundays d = Check.of("sunday s 20 1; guest a 8 2 9; rests = 99; death 1;");
        d.letIn(0, 0);
        due("promise 32: no deaths", d.earned(5), 45);
        d.weeks(1);
        due("promise 31: dead", d.weary(0), 0);
        due("promise 32: the dead pay nothing", d.earned(5), 0);
        LentSundays y = Check.of("sunday s 20 1; guest a 8 2 9; rests = 1; death 100;");
        y.letIn(0, 0);
        due("promise 31: behind 100", y.weary(0), 100);
    }

    private static void rivals() {
        LentSundays x = Check.of(HOUSE + "rests = 99; death 1;");
        int[] want = {12, 4, 3, 1};
        for (int g = 0; g < 4; g++) {
            due("promise 33: of " + g, x.rivals(g), want[g]);
        }
        x.letIn(0, 0);
        x.weeks(1);
        due("promise 33: the dead too", x.rivals(3), 1);
        for (int bad : new int[] {-1, 4, 7, LEAST, MOST}) {
            due("promise 33: guest " + bad, x.rivals(bad), -1);
        }
        LentSundays late = Check.of("guest a 23 12 1; guest b 0 11 1; guest c 23 1 1; guest d 22 1 1;");
        due("promise 33: hours do not go round", late.rivals(0), 4);
    }

    private static void thenWornInAndYear() {
        LentSundays x = Check.of("sunday s 10 5; guest a 0 2 9; guest b 5 1 1; rests = 1; death 1; seed 6; wears = others;");
        x.letIn(0, 0);
        x.letIn(1, 0);
        due("promise 34: now", x.then(0, 0, 0), 0);
        due("promise 34: now", x.then(0, 0, 1), 0);
        due("promise 34: now", x.then(0, 0, 2), 0);
        due("promise 34: where", x.then(0, 1, 0), -2);
        due("promise 34: how rested", x.then(0, 1, 1), 1);
        due("promise 34: dead", x.then(0, 1, 2), 1);
        due("promise 34: the dead stay as rested", x.then(0, 40, 1), 1);
        due("promise 35: now", x.wornIn(0, 0), 0);
        due("promise 35: by two", x.wornIn(0, 1), 2);
        int second = x.then(1, 1, 2) == 1 ? 0 : 1;
        due("promise 35: by who is not dead", x.wornIn(0, 2), 2 + second);
        due("nothing happened", x.count(2) + x.count(5), 0);
        for (int bad : new int[] {-1, 41, LEAST, MOST}) {
            due("promise 34: n " + bad, x.then(0, bad, 0), -1);
            due("promise 35: n " + bad, x.wornIn(0, bad), -1);
            due("promise 36: n " + bad, x.year(0, bad, 1), -1);
        }
        for (int bad : new int[] {-1, 3, 7, LEAST, MOST}) {
            due("promise 34: guest " + bad, x.then(bad, 1, 0), -1);
            due("promise 34: what " + bad, x.then(0, 1, bad), -1);
            due("promise 35: sunday " + bad, x.wornIn(bad, 1), -1);
            due("promise 36: guest " + bad, x.year(bad, 1, 1), -1);
        }
        for (int bad : new int[] {-1, 0, 21, LEAST, MOST}) {
            due("promise 36: seeds " + bad, x.year(0, 1, bad), -1);
        }
        LentSundays y = Check.of("sunday s 10 5; guest a 0 2 9; rests = 1; death 1; seed 9990;");
        y.letIn(0, 0);
        int[][] weeksAndLeft = {{0, 20}, {1, 18}, {5, 9}, {10, 4}, {40, 0}};
        for (int[] pair : weeksAndLeft) {
            due("promise 36: in " + pair[0], y.year(0, pair[0], 20), pair[1]);
        }
        LentSundays z = Check.of("sunday s 10 5; guest a 0 2 9; guest b 5 1 1; rests = 1; death 1; seed 5;");
        z.letIn(0, 0);
        due("promise 36: seed 5", z.year(0, 1, 1), 1);
        due("promise 36: and 6", z.year(0, 1, 2), 1);
        due("promise 36: and 7, 8", z.year(0, 1, 4), 2);
        due("promise 36: in no Sunday", z.year(1, 40, 20), 20);
    }

    private static void toldOnes() {
        LentSundays x = Check.of("guest a 0 4 10; guest b 4 3 8; guest c 2 4 15; guest d 7 5 7; guest e 22 5 1;");
        due("promise 39: nothing known", x.whose(0, 0), 5);
        due("promise 39: nothing known", x.whose(0, 1), 31);
        due("promise 39: not so many", x.whose(1, 0), -1);
        due("promise 40: two or three", x.look(0), 2);
        due("promise 37: its number", x.tell(5, true), 0);
        due("promise 39: both", x.whose(1, 1), 6);
        due("promise 40: tells them apart", x.look(1), 2);
        due("promise 37: its number", x.tell(2, false), 1);
        due("promise 39: one", x.whose(2, 1), 2);
        due("promise 40: one is left, all alike", x.look(2), 0);
        due("promise 39: just the first", x.whose(1, 0), 2);
        x.tell(6, false);
        due("promise 39: nobody", x.whose(3, 0), 0);
        due("promise 40: nobody", x.look(3), -2);
        for (int bad : new int[] {-1, 4, LEAST, MOST}) {
            due("promise 39: k " + bad, x.whose(bad, 0), -1);
            due("promise 39: what " + bad, x.whose(0, bad), -1);
            due("promise 40: k " + bad, x.look(bad), -1);
        }
        due("promise 39: what 2", x.whose(0, 2), -1);
        due("promise 38: how many", x.forget(), 3);
        due("promise 38: none", x.forget(), 0);
        due("promise 38: none", x.count(10), 0);
        for (int bad : new int[] {-1, 24, LEAST, MOST}) {
            due("promise 37: hour " + bad, x.tell(bad, true), -1);
        }
        x.tell(23, true);
        due("promise 39: the last hour", x.whose(1, 1), 16);
        x.forget();
        x.tell(0, false);
        x.tell(1, false);
        due("promise 39: hours do not go round", x.whose(2, 1), 30);
        for (int i = 2; i < 20; i++) {
            due("promise 37: number", x.tell(1, false), i);
        }
        due("promise 37: 20 are there", x.tell(1, false), -1);
        due("promise 39: by 20", x.whose(20, 1), 30);
        due("promise 38: 20", x.forget(), 20);
        LentSundays d = Check.of("sunday s 20 1; guest a 8 2 9; guest b 9 2 9; rests = 99; death 1;");
        d.letIn(0, 0);
        d.weeks(1);
        due("promise 39: dead or not", d.whose(0, 1), 3);
        due("promise 40: dead or not", d.look(0), 8);
    }

    private static void holdAndRestore() {
        LentSundays x = Check.of(HOUSE + "rests = 99; death 1; sells = 12;");
        due("promise 42: nothing is held", x.restore(0), false);
        x.letIn(0, 0);
        due("promise 41: held", x.hold(0), true);
        due("promise 41: no thing done", x.count(9), 1);
        x.tell(3, true);
        x.weeks(1);
        x.sell(1);
        due("promise 41: held", x.hold(2), true);
        due("promise 42: goes on from it", x.restore(0), true);
        due("promise 42: week", x.count(2), 0);
        due("promise 42: money", x.count(3), 0);
        due("promise 42: in", x.count(4), 1);
        due("promise 42: dead", x.count(5), 0);
        due("promise 42: sold", x.count(6), 0);
        due("promise 42: worn", x.count(12), 0);
        due("promise 42: rested", x.count(13), 0);
        due("promise 42: nothing can be undone", x.undo(), false);
        due("promise 42: what is told stays", x.count(10), 1);
        x.putOut(0);
        due("promise 42: it stays there", x.restore(0), true);
        due("promise 42: in again", x.count(4), 1);
        due("promise 42: the other", x.restore(2), true);
        due("promise 42: week", x.count(2), 1);
        due("promise 42: money", x.count(3), 22);
        due("promise 42: dead", x.count(5), 1);
        due("promise 42: sold", x.count(6), 2);
        due("promise 42: worn", x.count(12), 1);
        due("promise 42: rested", x.count(13), 99);
        x.weeks(1);
        due("promise 42: nothing is held there", x.restore(1), false);
        due("promise 42: nothing happened", x.count(2) * 10 + x.count(9), 21);
        for (int bad : new int[] {-1, 3, 32, LEAST, MOST}) {
            due("promise 41: slot " + bad, x.hold(bad), false);
            due("promise 42: slot " + bad, x.restore(bad), false);
        }
        due("promise 41: two hold something", x.count(11), 2);
        x.hold(0);
        due("promise 41: over what was held", x.restore(0) ? x.count(2) : -5, 2);
        LentSundays y = new LentSundays();
        Check.feed(y, "seed 1");
        y.hold(1);
        Check.feed(y, ";");
        due("promise 42: with no text", y.restore(1), true);
        due("promise 42: the tape stays", y.count(8), 7);
    }

    private static void count() {
        LentSundays x = Check.of(HOUSE + "sunday bare 3 4; guest eve 20 12 50; rests = 40; death 41; seed 0; wears = 4; sells = 6; pays = fee - others;");
        x.letIn(0, 0);
        x.letIn(1, 0);
        x.letIn(2, 1);
        due("promise 43: 7 due", x.count(7), 9 + 7 + 15);
        x.weeks(1);
        x.sell(2);
        x.tell(1, true);
        x.hold(1);
        x.feed(0, 0, 0, 0, 0);
        int[] want = {3, 5, 1, 37, 7, 0, 4, 31, 20, 5, 1, 1, 8, 120, 3, 3, 15, 20, 90};
        for (int what = 0; what < 19; what++) {
            due("promise 43: " + what, x.count(what), want[what]);
        }
        for (int bad : new int[] {-1, 19, 20, LEAST, MOST}) {
            due("promise 43: what " + bad, x.count(bad), -1);
        }
        LentSundays d = Check.of("sunday s 20 1; guest a 8 2 9; guest b 9 2 7; rests = 99; death 1;");
        d.letIn(0, 0);
        d.weeks(1);
        due("promise 43: 5 dead", d.count(5), 1);
        due("promise 43: 13 the dead too", d.count(13), 99);
        due("promise 43: 14 the dead too", d.count(14), 1);
        due("promise 43: 16 the dead too", d.count(16), 3);
        due("promise 43: 18 not the dead", d.count(18), 7);
        due("promise 43: 15 nobody", d.count(15), 0);
        d.sell(0);
        due("promise 43: 12 sold ones too", d.count(12), 1);
        due("promise 43: 16 nobody fits a sold one", d.count(16), 0);
        due("promise 43: 17 not sold ones", d.count(17), 0);
    }
}
