/** Promises 2 to 5: the tape, and the faults of texts with their places. */
public final class TextTest {
    private static final Check CHECK = new Check();
    private static final String GUESTS = "guest a 0 1 1; guest b 1 1 1; guest c 2 1 1; guest d 3 1 1; guest e 4 1 1; ";

    public static void main(String[] args) {
        feedsAndGoesBack();
        readsWhatHasNoFault();
        findsSyntaxFaults();
        findsTokens();
        findsRoomFaults();
        findsTheFourHundredFirstToken();
        findsNamesToldTwice();
        findsNamesNotTold();
        findsWrongNumbers();
        putsFaultsInOrder();
        keepsTheTextAheadOfAFault();
        CHECK.end("TextTest");
    }

    private static void fault(String text, int number, int place) {
        LentSundays x = new LentSundays();
        CHECK.due("read of «" + text + "»", Check.read(x, text), number);
        CHECK.due("place of «" + text + "»", x.place(), number == 0 ? -1 : place);
        CHECK.due("tape behind «" + text + "»", x.count(8), 0);
    }

    /** The fault stands where the text has a '!', which is taken out. */
    private static void faultAt(String marked, int number) {
        int place = marked.indexOf('!');
        fault(marked.substring(0, place) + marked.substring(place + 1), number, place);
    }

    private static void good(String text) {
        fault(text, 0, -1);
    }

    private static void feedsAndGoesBack() {
        LentSundays x = new LentSundays();
        CHECK.due("promise 5: no read yet", x.place(), -1);
        CHECK.due("promise 3: back(0)", x.back(0), 0);
        CHECK.due("promise 3: back(1) of nothing", x.back(1), -1);
        CHECK.due("promise 3: back(-1)", x.back(-1), -1);
        for (int i = 1; i <= 100; i++) {
            CHECK.due("promise 2: feed", x.feed(0x20202020, 0x20202020, 0x20202020, 0x20202020, 0x20202020), 20 * i);
        }
        CHECK.due("promise 2: too much", x.feed(1, 2, 3, 4, 5), -1);
        CHECK.due("promise 2: nothing came", x.count(8), 2000);
        CHECK.due("promise 3: back", x.back(19), 1981);
        CHECK.due("promise 2: one too many", x.feed(1, 2, 3, 4, 5), -1);
        CHECK.due("promise 3: back", x.back(1), 1980);
        CHECK.due("promise 2: just as many", x.feed(0x20202020, 0x20202020, 0x20202020, 0x20202020, 0x20202053), 2000);
        CHECK.due("promise 3: too far", x.back(2001), -1);
        CHECK.due("promise 3: least", x.back(Integer.MIN_VALUE), -1);
        CHECK.due("promise 4: a capital", x.read(), 1);
        CHECK.due("promise 5: its place", x.place(), 1999);
        CHECK.due("promise 4: the tape is empty", x.count(8), 0);
        CHECK.due("promise 4: an empty tape", x.read(), 0);
        CHECK.due("promise 5: no fault", x.place(), -1);
        CHECK.due("promise 2: high bytes", x.feed(-1, 0, 0, 0, 0), 20);
        CHECK.due("promise 4: high bytes", x.read(), 1);
        CHECK.due("promise 5: high bytes", x.place(), 0);
        CHECK.due("promise 2: the highest byte first", x.feed('s' << 24 | 'e' << 16 | 'e' << 8 | 'd', 0x2039393b, 0x20202020, 0x20202020, 0x20202020), 20);
        CHECK.due("promise 4: the highest byte first", x.read(), 0);
    }

    private static void readsWhatHasNoFault() {
        good("");
        good(" \t\r\n");
        good("sunday s 1 0;sunday t 24 99;");
        good("guest g 0 1 0;guest h 23 12 99;foes g h;");
        good("pays = fee; rests = hours; wears = hour; sells = rested + worn - worth * week / which + others;");
        good("pays = if 1 < 2 then 3 else if 4 < 5 then 6 else if 7 < 8 then 9 else if 10 < 11 then 12 else 13;");
        good("pays = ((((((1)))))) + ((((((2))))));");
        good("death 1; death 999; seed 0; seed 9999; death 0007;");
        good("sunday\ns\r1\t0;guest g12 3 4;");
        good("sunday s1 2;guest t3 4 5;");
        good("sunday sundays 1 1; guest abcdefgh 1 1 1; guest hourss 1 1 1; guest iff 1 1 1;");
    }

    private static void findsSyntaxFaults() {
        faultAt("!x", 1);
        faultAt("!;", 1);
        faultAt("sunday!", 1);
        faultAt("sunday  !", 1);
        faultAt("sunday !12", 1);
        faultAt("sunday !sunday 1 1;", 1);
        faultAt("sunday s !;", 1);
        faultAt("sunday s 1 !;", 1);
        faultAt("sunday s 1 1 !1;", 1);
        faultAt("sunday s 1 1 !sunday t 1 1;", 1);
        faultAt("guest g 1 1 !;", 1);
        faultAt("guest g 1 1 1 !", 1);
        faultAt("foes a !;", 1);
        faultAt("foes a b !c;", 1);
        faultAt("death !a;", 1);
        faultAt("death !;", 1);
        faultAt("seed 1 !1;", 1);
        faultAt("pays !fee;", 1);
        faultAt("pays = !;", 1);
        faultAt("pays = !-1;", 1);
        faultAt("pays = fee !fee;", 1);
        faultAt("pays = fee + !;", 1);
        faultAt("pays = (fee !;", 1);
        faultAt("pays = fee !);", 1);
        faultAt("pays = !name;", 1);
        faultAt("pays = 1 !< 2;", 1);
        faultAt("pays = if 1 !then 2 else 3;", 1);
        faultAt("pays = if 1 < 2 !< 3 then 2 else 3;", 1);
        faultAt("pays = if 1 < 2 then 3 !;", 1);
        faultAt("pays = if 1 < 2 then !if 1 < 2 then 3 else 4 else 5;", 1);
        faultAt("pays = (!if 1 < 2 then 3 else 4);", 1);
        faultAt("pays = if 1 < 2 then 3 else !;", 1);
        faultAt("pays = 1 !=", 1);
        faultAt("pays = !then;", 1);
        faultAt("!fee = 1;", 1);
    }

    private static void findsTokens() {
        faultAt("sunday !abcdefghi 1 1;", 1);
        faultAt("sunday s !12345 1;", 1);
        faultAt("seed !00000;", 1);
        faultAt("!sundaysunday s 1 1;", 1);
        faultAt("!Sunday s 1 1;", 1);
        faultAt("sunday !hours 1 1;", 1);
        faultAt("guest !others 1 1 1;", 1);
        faultAt("guest !else 1 1 1;", 1);
        faultAt("sunday s 1 1!.", 1);
        faultAt("sunday s 1 1;!.", 1);
        faultAt("sunday s 1 1;!\u0000", 1);
        faultAt("sunday s 1 1;!\u00a0", 1);
        faultAt("sunday s 1 1;!\u000b", 1);
        faultAt("pays = 1 !> 2;", 1);
    }

    private static void findsRoomFaults() {
        String four = "sunday a 1 1; sunday b 1 1; sunday c 1 1; sunday d 1 1; ";
        good(four);
        faultAt(four + "!sunday e 1 1;", 2);
        faultAt(four + "!sunday ;", 2);
        String seven = GUESTS + "guest f 5 1 1; guest g 6 1 1; ";
        good(seven);
        faultAt(seven + "!guest h 1 1 1;", 2);
        String eight = GUESTS + "foes a b; foes a c; foes a d; foes a e; foes b c; foes b d; foes b e; foes c d; ";
        good(eight);
        faultAt(eight + "!foes c e;", 2);
        faultAt("pays = if 1<2 then 1 else if 1<2 then 1 else if 1<2 then 1 else if 1<2 then 1 else !if 1<2 then 1 else 1;", 2);
        good("pays = if 1<2 then 1 else if 1<2 then 1 else 1; rests = if 1<2 then 1 else if 1<2 then 1 else if 1<2 then 1 else 1;");
        faultAt("pays = ((((((!(1)))))));", 2);
        faultAt("pays = if ((((((1)))))) < ((((((!(1))))))) then 1 else 1;", 2);
        faultAt("pays = 1 + 2 * (1 - (2 - (3 - (4 - (5 - (6 - !(7)))))));", 2);
        faultAt("pays = ((((((!((1)))))));", 2);
    }

    private static void findsTheFourHundredFirstToken() {
        String full = "seed 1;".repeat(132) + "pays=1;";
        good(full);
        good(full + "  ");
        faultAt(full + "!seed 1;", 2);
        faultAt(full + " !sunday", 2);
        faultAt(full + "!a", 1);
        faultAt(full + "!;", 1);
        faultAt(full + "!.", 1);
        String toSeed = "seed 1;".repeat(133) + "seed";
        faultAt(toSeed + " !1;", 2);
        faultAt(toSeed + " !", 1);
        faultAt(toSeed + " !seed", 1);
        faultAt(toSeed + " !12345", 1);
        String toOne = "pays = 1" + "+1".repeat(198);
        good(toOne + ";");
        faultAt(toOne + "+!1;", 2);
        faultAt(toOne + "+!;", 1);
        faultAt(toOne + ";!pays", 2);
        faultAt("seed 1;pays = 1" + "+1".repeat(197) + "!;", 2);
        faultAt("seed 1;pays = 1" + "+1".repeat(197) + "!+1;", 2);
        faultAt("seed 1;pays = 1" + "+1".repeat(197) + "!)", 1);
    }

    private static void findsNamesToldTwice() {
        faultAt("sunday s 1 1; sunday !s 1 1;", 3);
        faultAt("guest g 1 1 1; guest !g 1 1 1;", 3);
        faultAt("sunday s 1 1; guest !s 1 1 1;", 3);
        faultAt("guest g 1 1 1; sunday !g 1 1;", 3);
        faultAt(GUESTS + "foes a !a;", 3);
        faultAt(GUESTS + "foes a b; foes a !b;", 3);
        faultAt(GUESTS + "foes a b; foes b !a;", 3);
        good(GUESTS + "foes a b; foes c a; foes b c;");
    }

    private static void findsNamesNotTold() {
        faultAt("foes !a b;", 4);
        faultAt("foes !a a;", 4);
        faultAt(GUESTS + "foes a !x;", 4);
        faultAt(GUESTS + "foes !x a;", 4);
        faultAt("guest a 1 1 1; foes a !b; guest b 1 1 1;", 4);
        faultAt("sunday s 1 1; guest a 1 1 1; foes a !s;", 4);
    }

    private static void findsWrongNumbers() {
        faultAt("sunday s !0 1;", 5);
        faultAt("sunday s !25 1;", 5);
        faultAt("sunday s 24 !100;", 5);
        faultAt("guest g !24 1 1;", 5);
        faultAt("guest g 23 !0 1;", 5);
        faultAt("guest g 23 !13 1;", 5);
        faultAt("guest g 23 12 !100;", 5);
        faultAt("death !0;", 5);
        faultAt("death !1000;", 5);
        faultAt("sunday s !0000 9999;", 5);
    }

    private static void putsFaultsInOrder() {
        faultAt("sunday s 0 100; death 0 !", 1);
        faultAt("sunday s 0 100; pays = ((((((!(1)))))));", 2);
        faultAt("sunday s !0 1; sunday s 1 1;", 5);
        faultAt("sunday s 1 1; sunday !s 0 1;", 3);
        faultAt("foes !a b; death 0;", 4);
        faultAt("death !0; foes a b;", 5);
        faultAt("sunday a 1 1; sunday b 1 1; sunday c 1 1; sunday d 1 1; !sunday e . 1; sunday f 1 1;", 2);
        faultAt("sunday a 1 1; sunday b 1 1; sunday c 1 1; sunday d 1 1; !. sunday e 1 1;", 1);
    }

    private static void keepsTheTextAheadOfAFault() {
        LentSundays x = Check.of("sunday s 10 7; guest g 1 2 3; guest h 3 2 5; pays = 4; death 50; seed 3;");
        x.letIn(0, 0);
        x.weeks(2);
        x.tell(1, true);
        x.hold(1);
        CHECK.due("promise 4: a fault", Check.read(x, "sunday t 5 5; guest a 0 1 1; pays = 9; foes a a;"), 3);
        CHECK.due("promise 4: sundays stay", x.count(0), 1);
        CHECK.due("promise 4: guests stay", x.count(1), 2);
        CHECK.due("promise 4: the week stays", x.count(2), 2);
        CHECK.due("promise 4: the money stays", x.count(3), 8);
        CHECK.due("promise 4: laws stay", x.guest(0, 6), 4);
        CHECK.due("promise 4: hours stay", x.guest(1, 0), 3);
        CHECK.due("promise 4: what is undone stays", x.count(9), 2);
        CHECK.due("promise 4: what is told stays", x.count(10), 1);
        CHECK.due("promise 4: slots stay", x.count(11), 1);
        CHECK.due("promise 4: clashes stay", x.rivals(0), 0);
        CHECK.due("promise 5: the place", x.place(), 46);
        CHECK.due("promise 4: no fault", Check.read(x, "sunday t 5 5; guest a 0 1 1;"), 0);
        CHECK.due("promise 5: no place", x.place(), -1);
        for (int what : new int[] {2, 3, 4, 5, 6, 7, 8, 9, 10, 11, 12, 13}) {
            CHECK.due("promise 4: begun anew, count " + what, x.count(what), 0);
        }
        CHECK.due("promise 4: nothing can be undone", x.undo(), false);
        CHECK.due("promise 4: nothing is held", x.restore(1), false);
        x.letIn(0, 0);
        CHECK.due("promise 4: laws not told", x.guest(0, 6), 1);
        CHECK.due("promise 4: the empty text", x.read(), 0);
        CHECK.due("promise 4: no sundays then", x.count(0), 0);
        CHECK.due("promise 4: no guests then", x.count(1), 0);
    }
}
