import java.util.List;

/** Boundary cases of "What it is", of "Terms", part IV, and of promises 1 and 37 to 43. */
final class ToldBounds extends Bounds {
    /** Two Sundays, three guests: a 0-1, b 2-4, c 4-5, of whom b and c clash. */
    private static final String HOUSE = "sunday s 6 7;sunday t 5 5;guest a 0 2 3;guest b 2 3 5;guest c 4 2 9;";
    private static final String SEVEN = "guest a 0 1 1;guest b 1 1 1;guest c 2 1 1;guest d 3 1 1;guest e 4 1 1;"
        + "guest f 5 1 1;guest g 6 1 1;";
    private static final String FOUR_SUNDAYS = "sunday h 24 1;sunday i 24 2;sunday j 24 3;sunday k 24 4;";

    // ---- 512 calls

    /** Feeds a text in whole twenties, blanks behind it; answers how many calls that took, with the read. */
    private int load(LentSundays x, String text) {
        int calls = (text.length() + 19) / 20;
        Check.feed(x, text + " ".repeat(20 * calls - text.length()));
        due("read", x.read(), 0);
        return calls + 2;
    }

    void whatItIs_512CallsOfWeeks() {
        LentSundays x = new LentSundays();
        int calls = load(x, "sunday s 7 9;" + SEVEN + "rests=0;pays=99;");
        for (int g = 0; g < 7; g++) {
            x.letIn(g, 0);
            calls++;
        }
        int week = 0;
        for (; calls < 511; calls++) {
            week += 40;
            due("week", x.weeks(40), week);
        }
        due("the 512th call: the money", x.count(3), 693 * week);
    }

    void whatItIs_512CallsOfThingsDoneAndUndone() {
        LentSundays x = new LentSundays();
        int calls = load(x, HOUSE);
        for (; calls < 470; calls += 2) {
            due("let in", x.letIn(0, 1), true);
            due("put out", x.putOut(0), true);
        }
        for (int i = 0; i < 40; i++) {
            due("undo", x.undo(), true);
            calls++;
        }
        for (; calls < 511; calls++) {
            due("undo", x.undo(), false);
        }
        due("the 512th call", x.letIn(2, 0), true);
    }

    void whatItIs_512CallsOfTexts() {
        LentSundays x = new LentSundays();
        for (int calls = 0; calls < 510; calls += 3) {
            x.feed('s' << 24 | 'u' << 16 | 'n' << 8 | 'd', 0x61792073, 0x20392037, 0x3b202020, 0x20202020);
            due("read", x.read(), 0);
            due("SELLS", x.sunday(0, 6), 7);
        }
        due("the 511th call", x.feed(-1, -1, -1, -1, -1), 20);
        due("the 512th call", x.read(), 1);
    }

    // ---- promise 1

    void promise01_aNewObjectHasNoSundaysAndNoGuests() {
        LentSundays x = new LentSundays();
        for (int what = 0; what < 19; what++) {
            due("count " + what, x.count(what), 0);
        }
        due("no Sunday", x.sunday(0, 0), -1);
        due("no guest", x.guest(0, 0), -1);
        due("no read yet", x.place(), -1);
        due("nobody to let in", x.letIn(0, 0), false);
        due("nothing to undo", x.undo(), false);
        due("nothing held", x.restore(0), false);
    }

    void promise01_twoObjectsAreApart() {
        LentSundays x = Check.of(HOUSE);
        LentSundays y = new LentSundays();
        due("none", y.count(0) + y.count(1), 0);
        x.letIn(0, 0);
        x.weeks(3);
        x.tell(3, true);
        x.hold(0);
        due("week 0", y.count(2), 0);
        due("nothing told", y.count(10), 0);
        due("nothing held", y.restore(0), false);
        due("nothing to undo", y.undo(), false);
        LentSundays z = Check.of(HOUSE);
        due("nobody let in", z.count(4), 0);
    }

    // ---- TOLD, WHOSE, LOOK

    void termsIV_hoursAre0To23() {
        LentSundays x = Check.of("guest a 0 1 1;guest b 23 1 1;");
        due("-1", x.tell(-1, true), -1);
        due("24", x.tell(24, true), -1);
        due("0", x.tell(0, true), 0);
        due("a", x.whose(1, 1), 1);
        x.forget();
        due("23", x.tell(23, true), 0);
        due("b", x.whose(1, 1), 2);
    }

    void termsIV_20AtMostNumberedFrom0On() {
        LentSundays x = Check.of(HOUSE);
        for (int i = 0; i < 20; i++) {
            due("number", x.tell(i, i % 2 == 0), i);
        }
        due("20", x.count(10), 20);
        due("the 21st", x.tell(0, true), -1);
        due("still 20", x.count(10), 20);
        due("known by 20", x.whose(20, 0), 0);
    }

    void termsIV_knownByTheFirstK() {
        LentSundays x = Check.of(SEVEN);
        for (int i = 0; i < 7; i++) {
            x.tell(i, false);
        }
        for (int k = 0; k <= 7; k++) {
            due("how many by " + k, x.whose(k, 0), 7 - k);
            due("which by " + k, x.whose(k, 1), 127 >> k << k);
        }
        due("not by 8", x.whose(8, 0), -1);
    }

    void termsIV_thereFromTheFirstHourToTheLast() {
        for (int hour = 0; hour < 24; hour++) {
            LentSundays x = Check.of("guest a 5 12 1;guest b 0 1 1;guest c 23 1 1;guest d 20 8 1;");
            x.tell(hour, true);
            int want = (hour >= 5 && hour <= 16 ? 1 : 0) + (hour == 0 ? 2 : 0) + (hour == 23 ? 4 : 0) + (hour >= 20 ? 8 : 0);
            due("there at " + hour, x.whose(1, 1), want);
            x.forget();
            x.tell(hour, false);
            due("not there at " + hour, x.whose(1, 1), 15 - want);
        }
    }

    void termsIV_whoseDeadOrNot() {
        LentSundays x = withADeadGuest(HOUSE);
        due("how many", x.whose(0, 0), 3);
        due("which", x.whose(0, 1), 7);
        x.tell(1, true);
        due("the dead one", x.whose(1, 1), 1);
        due("where to look for them", x.look(1), 0);
    }

    void termsIV_whatIsToldTwiceOrAgainstItself() {
        LentSundays x = Check.of(HOUSE);
        x.tell(4, true);
        x.tell(4, true);
        due("twice", x.whose(2, 1), 6);
        x.tell(4, false);
        due("against it", x.whose(3, 1), 0);
        due("against it", x.whose(3, 0), 0);
    }

    void termsIV_lookForFewestAtWorst() {
        LentSundays x = Check.of("guest a 0 4 1;guest b 4 4 1;guest c 6 4 1;guest d 7 4 1;");
        due("two of four at 6", x.look(0), 6);
        LentSundays y = Check.of("guest a 22 1 1;guest b 23 1 1;");
        due("one of two at 22", y.look(0), 22);
        LentSundays z = Check.of("guest a 22 2 1;guest b 23 1 1;guest c 22 2 1;guest d 23 1 1;");
        due("two of four at 22", z.look(0), 22);
        LentSundays w = Check.of("guest a 20 4 1;guest b 23 1 1;guest c 23 2 1;guest d 20 3 1;guest e 23 1 1;");
        due("two of five at 20, at worst three", w.look(0), 20);
        LentSundays v = Check.of("guest a 0 12 1;guest b 0 12 1;guest c 11 12 1;guest d 23 1 1;");
        due("two of four from 0 on", v.look(0), 0);
        LentSundays u = Check.of("guest a 23 1 1;guest b 0 1 1;guest c 23 9 1;guest d 1 1 1;guest e 2 1 1;");
        due("two of five at the last hour alone", u.look(0), 23);
        LentSundays t = Check.of(SEVEN.replaceAll("[0-6] 1 1", "9 2 1").replace("guest d 9", "guest d 5"));
        due("one of seven at 5", t.look(0), 5);
    }

    void termsIV_lookAtNoHourBeyond23() {
        LentSundays x = Check.of("guest a 23 2 1;guest b 23 1 1;");
        due("a and b are apart at 24 alone", x.look(0), 0);
        LentSundays y = Check.of("guest a 20 12 1;guest b 20 4 1;guest c 20 4 1;guest d 20 12 1;");
        due("two of four at 24 alone", y.look(0), 0);
    }

    void termsIV_lookOfAlikeOnesTheFirst() {
        LentSundays x = Check.of("guest a 9 3 1;");
        due("one is left whatever is told", x.look(0), 0);
        LentSundays y = Check.of("guest a 9 3 1;guest b 14 3 1;");
        due("9 to 11 and 14 to 16", y.look(0), 9);
        LentSundays z = Check.of("guest a 9 3 1;guest b 9 3 1;");
        due("both are left whatever is told", z.look(0), 0);
    }

    void promise37_noneIf20AreThere() {
        LentSundays x = Check.of(HOUSE);
        for (int i = 0; i < 19; i++) {
            x.tell(0, true);
        }
        due("the 20th", x.tell(1, true), 19);
        List<Integer> before = seen(x);
        due("the 21st", x.tell(5, false), -1);
        due("the 22nd", x.tell(23, true), -1);
        same("20 are there", x, before);
        x.forget();
        due("the first again", x.tell(5, false), 0);
    }

    void promise37_noneForNoSuchHour() {
        LentSundays x = Check.of(HOUSE);
        x.tell(4, true);
        List<Integer> before = seen(x);
        for (int bad : numbers(-2, -1, 24, 25, 100, LEAST, MOST)) {
            due("hour " + bad, x.tell(bad, true), -1);
            due("hour " + bad, x.tell(bad, false), -1);
        }
        same("no such hour", x, before);
    }

    void promise38_howManyThereWere() {
        LentSundays x = Check.of(HOUSE);
        due("none", x.forget(), 0);
        x.tell(4, true);
        due("one", x.forget(), 1);
        due("none any more", x.forget(), 0);
        due("none", x.count(10), 0);
        due("k 1", x.whose(1, 0), -1);
        for (int i = 0; i < 20; i++) {
            x.tell(4, true);
        }
        due("20", x.forget(), 20);
        due("numbered from 0 again", x.tell(0, false), 0);
        due("nothing of what was told", x.whose(1, 1), 6);
    }

    void promise39_noneForNoSuchOnes() {
        LentSundays x = Check.of(HOUSE);
        due("k 0", x.whose(0, 0), 3);
        due("k 1 of none", x.whose(1, 0), -1);
        x.tell(4, true);
        due("k 1", x.whose(1, 0), 2);
        for (int bad : numbers(-2, -1, 2, 20, 21, LEAST, MOST)) {
            due("k " + bad, x.whose(bad, 0), -1);
        }
        for (int bad : numbers(-2, -1, 2, 3, LEAST, MOST)) {
            due("what " + bad, x.whose(0, bad), -1);
        }
        due("no guests", new LentSundays().whose(0, 0), 0);
        due("no guests", new LentSundays().whose(0, 1), 0);
        due("all seven", Check.of(SEVEN).whose(0, 0), 7);
        due("all seven", Check.of(SEVEN).whose(0, 1), 127);
    }

    void promise39_by20() {
        LentSundays x = Check.of(SEVEN);
        for (int i = 0; i < 20; i++) {
            x.tell(i == 19 ? 6 : 23, false);
        }
        due("by 19", x.whose(19, 1), 127);
        due("by 20", x.whose(20, 1), 63);
        due("by 21", x.whose(21, 1), -1);
    }

    void promise40_minus2IfNoneIsLeft() {
        LentSundays x = Check.of(HOUSE);
        x.tell(5, true);
        due("one is left", x.look(1), 0);
        x.tell(0, true);
        due("none is left", x.look(2), -2);
        due("as known by 1", x.look(1), 0);
        due("no guests", new LentSundays().look(0), -2);
    }

    void promise40_noneForNoSuchK() {
        LentSundays x = Check.of(HOUSE);
        due("k 0", x.look(0), 0);
        due("k 1 of none", x.look(1), -1);
        x.tell(4, true);
        due("k 1", x.look(1), 2);
        for (int bad : numbers(-2, -1, 2, 20, 21, LEAST, MOST)) {
            due("k " + bad, x.look(bad), -1);
        }
    }

    // ---- hold, restore, count

    void promise41_slots0To2() {
        LentSundays x = Check.of(HOUSE);
        for (int slot = 0; slot < 3; slot++) {
            x.weeks(1);
            due("slot " + slot, x.hold(slot), true);
            due("slots that hold something", x.count(11), slot + 1);
        }
        due("slot 0 again", x.hold(0), true);
        due("three still", x.count(11), 3);
    }

    void promise41_falseForNoSuchSlot() {
        LentSundays x = Check.of(HOUSE);
        x.weeks(1);
        List<Integer> before = seen(x);
        for (int bad : numbers(-2, -1, 3, 4, 31, 32, LEAST, MOST)) {
            due("slot " + bad, x.hold(bad), false);
        }
        same("no such slot", x, before);
    }

    void promise41_allThatGoesOnIsHeld() {
        LentSundays x = Check.of("sunday s 6 7;sunday t 5 5;sunday u 5 5;guest a 0 2 3;guest b 2 3 5;guest c 0 2 9;"
            + "wears = 3;rests = if which < 1 then 99 else 3;death 5;");
        x.letIn(0, 0);
        x.letIn(1, 0);
        x.weeks(1);
        x.sell(1);
        x.letIn(2, 2);
        List<Integer> before = seen(x);
        due("held", x.hold(1), true);
        x.putOut(1);
        x.weeks(5);
        x.putOut(2);
        x.sell(2);
        x.air(0);
        x.tell(3, true);
        x.forget();
        due("restored", x.restore(1), true);
        List<Integer> after = seen(x);
        int undone = 8;
        due("dead", x.count(5), 1);
        for (int i = 0; i < before.size(); i++) {
            boolean slots = i == 10;
            due("the " + i + "-th", after.get(i), i == undone ? 0 : slots ? 1 : before.get(i));
        }
    }

    void promise41_notWhatIsToldNorTheTape() {
        LentSundays x = Check.of(HOUSE);
        x.tell(4, true);
        Check.feed(x, "seed 1");
        x.hold(0);
        x.tell(2, true);
        Check.feed(x, "2;");
        x.restore(0);
        due("told", x.count(10), 2);
        due("known", x.whose(2, 1), 2);
        due("tape", x.count(8), 8);
        x.forget();
        x.back(8);
        x.restore(0);
        due("told", x.count(10), 0);
        due("tape", x.count(8), 0);
    }

    void promise41_isNoThingDone() {
        LentSundays x = Check.of(HOUSE);
        x.weeks(1);
        x.hold(0);
        due("things done", x.count(9), 1);
        due("undo", x.undo(), true);
        due("the week is undone", x.count(2), 0);
        due("the slot holds week 1", x.restore(0), true);
        due("week 1", x.count(2), 1);
    }

    void promise42_falseForNoSuchSlot() {
        LentSundays x = Check.of(HOUSE);
        x.hold(0);
        x.hold(1);
        x.hold(2);
        x.letIn(0, 0);
        x.weeks(1);
        List<Integer> before = seen(x);
        for (int bad : numbers(-2, -1, 3, 4, 31, 32, LEAST, MOST)) {
            due("slot " + bad, x.restore(bad), false);
        }
        same("no such slot", x, before);
    }

    void promise42_falseIfNothingIsHeld() {
        LentSundays x = Check.of(HOUSE);
        x.letIn(0, 0);
        x.weeks(1);
        List<Integer> before = seen(x);
        for (int slot = 0; slot < 3; slot++) {
            due("slot " + slot, x.restore(slot), false);
        }
        same("nothing is held", x, before);
        x.hold(1);
        due("0", x.restore(0), false);
        due("2", x.restore(2), false);
        due("1", x.restore(1), true);
    }

    void promise42_eachSlotHasItsOwn() {
        LentSundays x = Check.of(HOUSE);
        for (int slot = 0; slot < 3; slot++) {
            x.weeks(slot + 1);
            x.hold(slot);
        }
        for (int slot : numbers(2, 0, 1, 0, 2)) {
            due("slot " + slot, x.restore(slot), true);
            due("week", x.count(2), slot == 0 ? 1 : slot == 1 ? 3 : 6);
        }
    }

    void promise42_itStaysThere() {
        LentSundays x = Check.of(HOUSE);
        x.letIn(0, 0);
        x.hold(2);
        for (int i = 0; i < 3; i++) {
            x.weeks(7);
            x.putOut(0);
            due("restore", x.restore(2), true);
            due("week 0", x.count(2), 0);
            due("let in", x.count(4), 1);
            due("one slot", x.count(11), 1);
        }
    }

    void promise42_nothingCanBeUndoneThen() {
        LentSundays x = Check.of(HOUSE);
        x.weeks(1);
        x.hold(0);
        x.weeks(1);
        x.restore(0);
        due("things done", x.count(9), 0);
        due("undo", x.undo(), false);
        due("week 1", x.count(2), 1);
        x.weeks(3);
        due("undo", x.undo(), true);
        due("week 1", x.count(2), 1);
        due("undo", x.undo(), false);
    }

    void promise43_noneForOthers() {
        LentSundays x = Check.of(HOUSE);
        for (int bad : numbers(-2, -1, 19, 20, 32, LEAST, MOST)) {
            due("what " + bad, x.count(bad), -1);
        }
        for (int what = 0; what < 19; what++) {
            due("what " + what, x.count(what) >= 0, true);
        }
    }

    /** All that there can be: four Sundays, seven guests, all of whom are let in. */
    void promise43_allThatThereCanBe() {
        LentSundays x = Check.of(FOUR_SUNDAYS + SEVEN.replace(" 1 1;", " 1 99;") + "rests = 99;wears = 99;death 999;"
            + "foes a b;foes a c;foes a d;foes a e;foes a f;foes a g;foes b c;foes b d;");
        due("4 nobody", x.count(4), 0);
        due("15 nobody", x.count(15), 0);
        x.letIn(0, 0);
        x.letIn(1, 1);
        x.letIn(2, 2);
        for (int g = 3; g < 7; g++) {
            x.letIn(g, 3);
        }
        x.weeks(1);
        int[] want = {4, 7, 1, 693, 127, 0, 0, 693, 0, 8, 0, 0, 4 * 99, 693, 8, 15, 127, 96, 693};
        for (int what = 0; what < 19; what++) {
            due("what " + what, x.count(what), want[what]);
        }
    }

    void promise43_13HowRestedAllAre() {
        LentSundays x = Check.of("sunday s 24 9;" + SEVEN + "rests = 99;death 999;seed " + calmSeed() + ";");
        for (int g = 0; g < 7; g++) {
            x.letIn(g, 0);
        }
        x.weeks(11);
        due("nobody is dead", x.count(5), 0);
        due("all by 999", x.count(13), 7 * 999);
        LentSundays d = withADeadGuest(HOUSE);
        due("the dead too", d.count(13), 99);
    }

    /** A seed by which nobody of seven dies in week 10, rested by just DEATH. */
    private static int calmSeed() {
        for (int seed = 0;; seed++) {
            boolean calm = true;
            for (int g = 0; g < 7; g++) {
                calm &= lot(seed, 80 + g) >= 10;
            }
            if (calm) {
                return seed;
            }
        }
    }

    void promise43_5WhoIsDead() {
        LentSundays x = Check.of("sunday s 24 9;" + SEVEN + "rests = 99;death 1;");
        for (int g = 0; g < 7; g++) {
            due("ahead of " + g, x.count(5), (1 << g) - 1);
            x.letIn(g, 0);
            x.weeks(1);
        }
        due("all", x.count(5), 127);
        due("4 nobody is in", x.count(4), 0);
        due("18 no fees", x.count(18), 0);
        due("16 dead or not", x.count(16), 127);
        due("7 nothing due", x.count(7), 0);
    }

    void promise43_6And17SundaysSoldAndNotSold() {
        LentSundays x = Check.of(FOUR_SUNDAYS + SEVEN);
        for (int s = 3; s >= 0; s--) {
            due("16 all fit", x.count(16), 127);
            x.sell(s);
            due("6 sold", x.count(6), 15 >> s << s);
            due("17 not sold", x.count(17), 24 * s);
        }
        due("16 nobody fits", x.count(16), 0);
        due("0 there still", x.count(0), 4);
    }

    void promise43_8BytesOnTheTape() {
        LentSundays x = new LentSundays();
        for (int i = 0; i <= 100; i++) {
            due("bytes", x.count(8), 20 * i);
            x.feed(1, 2, 3, 4, 5);
        }
        due("2000 still", x.count(8), 2000);
        x.back(1999);
        due("1", x.count(8), 1);
        x.read();
        due("0", x.count(8), 0);
    }

    void promise43_9ThingsThatCanBeUndone() {
        LentSundays x = new LentSundays();
        for (int i = 0; i <= 45; i++) {
            due("things", x.count(9), Math.min(i, 40));
            x.weeks(1);
        }
        for (int i = 39; i >= -1; i--) {
            x.undo();
            due("things", x.count(9), Math.max(i, 0));
        }
    }

    void promise43_10And11ToldOnesAndSlots() {
        LentSundays x = new LentSundays();
        for (int i = 0; i <= 21; i++) {
            due("told", x.count(10), Math.min(i, 20));
            x.tell(3, true);
        }
        due("slots", x.count(11), 0);
        x.hold(2);
        due("slots", x.count(11), 1);
        x.hold(0);
        due("slots", x.count(11), 2);
        x.hold(1);
        due("slots", x.count(11), 3);
    }

    void promise43_14PairsWhoClash() {
        due("none", Check.of(SEVEN).count(14), 0);
        due("all", Check.of(SEVEN.replaceAll("[0-6] 1 1", "0 1 1")).count(14), 21);
        due("by hours and as foes, once", Check.of("guest a 0 2 1;guest b 1 2 1;foes a b;").count(14), 1);
        due("one guest", Check.of("guest a 0 2 1;").count(14), 0);
        due("the dead too", withADeadGuest("sunday s 9 9;guest a 0 2 1;guest b 1 2 1;").count(14), 1);
    }
}
