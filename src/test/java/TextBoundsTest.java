/**
 * The sentences on a TEXT and its ITEMS that name a boundary case, a test each: 'Terms', part 1, down to
 * FAULT and LAID, and promises 1 to 6. What a test quotes is the sentence that it would show broken.
 */
public final class TextBoundsTest extends Bench {
    /** Every kind of item, with numbers of one figure and of two. */
    private static final String ALL = "h1;h0;h2;h3;v0,1;v1,2;r1,1,2;w0,10;s0,3,4;g0,1,5,16;l1,20,30;";
    private static final String LETTERS = "hvrwsgl";
    private static final String TWO = "h0;h0;", SEEN = "h0;h0;v0,1;", TEN = "h0;h0;h0;h0;h0;h0;h0;h0;h0;h0;";

    public static void main(String[] args) {
        anEmptyTextIsLaidInANewObject();
        oneToEightBytesAreWritten();
        theHighestByteComesFirst();
        threeHundredBytesAtMost();
        aFullTextTakesNothing();
        aWholeTextOfThreeHundredBytesIsRead();
        wipeTellsHowLongItWas();
        wipeLeavesNothingBehind();

        anEmptyTextHasNoFault();
        anItemThatDoesNotEndIsAFault();
        aByteOfNoItemIsAFault();
        aLetterOfNoItemIsAFault();
        aNumberHasOneOrTwoFigures();
        numbersAreNotMoreOrFewer();
        theFirstFaultIsTold();

        kindsAreZeroToThree();
        oneEarAtMost();
        tenHillsAtMost();
        hillsAreAheadOfAllElse();
        sightsAreOfHills();
        sightsAreOfUnlikeHills();
        sightsAreOnceEach();
        rulesAreOfHillsOnceEach();
        rulesAreOneToNine();
        rulesAreOneAndOneWithout();
        woodIsZeroToNinetyNineOnceEach();
        sleepIsInMinutesOfANight();
        mistIsWhereTheySeeOneAnother();
        mistIsInMinutesOfANight();
        liarsAreNeitherEarNorSpare();
        liesAreInMinutesOfANight();

        layTellsHowManyHills();
        layForgetsLogsAndShip();
        layForgetsWhatWasLaid();
        layWithAFaultLeavesWhatIsLaid();
        hillTellsFiveThings();
        hillIsOneThatIsLaid();
        end();
    }

    /** Promise 1: "An empty TEXT is LAID." */
    private static void anEmptyTextIsLaidInANewObject() {
        LyingBeacons x = new LyingBeacons();
        for (int what = 0; what <= 7; what++) {
            due("1: count(" + what + ") of a new object", x.count(what), 0);
        }
        for (int what = 0; what <= 4; what++) {
            due("1: hill(0, " + what + ") of a new object", x.hill(0, what), BAD);
        }
        for (int minute = 0; minute < 60; minute++) {
            due("1: seen(" + minute + ") of a new object", x.seen(minute), 0);
        }
        due("1: no head sees a ship", x.ship(1, 0, 0), BAD);
        due("1: a ship that nobody sees", x.ship(0, 0, 59), 0);
        due("1: burns", x.burns(0, 0), BAD);
        due("1: wood", x.wood(0), BAD);
        due("1: alarm without ear", x.alarm(), NO);
        due("1: log", x.log(0, 0), -100);
        for (int what = 0; what <= 3; what++) {
            due("1: logs(" + what + ")", x.logs(what), what == 2 ? NONE : 0);
        }
        due("1: nothing kept", x.back(), NO);
        due("1: the empty one is kept", x.keep(), 1);
        due("1: the empty one comes back", x.back(), 0);
        due("1: the empty one is laid again", x.lay(), 0);
    }

    /** Promise 2: "n bytes (1 to 8) of v .. how long it is. BAD". */
    private static void oneToEightBytesAreWritten() {
        for (int n = 1; n <= 8; n++) {
            LyingBeacons x = new LyingBeacons();
            due("2: write(" + n + ")", x.write(n, 0), n);
            due("2: write(" + n + ") twice", x.write(n, -1), 2 * n);
            due("2: length", x.count(5), 2 * n);
        }
        LyingBeacons x = new LyingBeacons();
        for (int n : new int[] {LEAST, LEAST + 1, -256, -8, -1, 0, 9, 16, 257, GREATEST - 1, GREATEST}) {
            for (long v : new long[] {0, 'h', Long.MIN_VALUE, -1, Long.MAX_VALUE}) {
                due("2: write(" + n + ", " + v + ")", x.write(n, v), BAD);
            }
        }
        due("2: nothing was written", x.count(5), 0);
    }

    /** Promise 2: "n bytes (1 to 8) of v, the highest first": what stands above them, the sign too, is not written. */
    private static void theHighestByteComesFirst() {
        String text = "h1;h0;h2;v0,1;v1,2;r1,2,3;";
        for (long noise : new long[] {0, 1, -1, Long.MIN_VALUE, Long.MAX_VALUE, 0x683B_683B_683B_683BL}) {
            for (int n = 1; n <= 8; n++) {
                LyingBeacons x = new LyingBeacons();
                for (int at = 0; at < text.length(); at += n) {
                    int size = Math.min(n, text.length() - at);
                    long above = size == 8 ? 0 : noise << 8 * size;
                    x.write(size, above | bytes(text, at, size));
                }
                String told = "2: by " + n + " bytes below " + noise + ": ";
                due(told + "lay", x.lay(), 3);
                due(told + "the sights", x.hill(1, 1), 5);
                due(told + "the rule", 10 * x.hill(1, 2) + x.hill(1, 3), 23);
            }
        }
        LyingBeacons x = new LyingBeacons();
        due("2: eight bytes by a v below zero", x.write(8, bytes("h0;h0;h0", 0, 8) | Long.MIN_VALUE), 8);
        due("2: its sign is a byte's highest bit", x.fault(), 0);
        x.wipe();
        due("2: seven bytes, the sign above them", x.write(7, bytes("h0;h0;h", 0, 7) | Long.MIN_VALUE), 7);
        due("2: its sign is not written", x.fault(), 6);
    }

    private static String ofLength(int length) {
        return "x".repeat(length);
    }

    /** "A TEXT are bytes (300 at most)", promise 2: "how long it is .. FULL." */
    private static void threeHundredBytesAtMost() {
        for (int length = 291; length <= 300; length++) {
            for (int n = 1; n <= 8; n++) {
                LyingBeacons x = new LyingBeacons();
                add(x, ofLength(length));
                int want = length + n <= 300 ? length + n : FULL;
                due("2: write(" + n + ") behind " + length, x.write(n, 0), want);
                due("2: length", x.count(5), want == FULL ? length : want);
            }
        }
        LyingBeacons x = new LyingBeacons();
        add(x, ofLength(300));
        for (int n : new int[] {LEAST, -1, 0, 9, GREATEST}) {
            due("2: BAD ahead of FULL, write(" + n + ")", x.write(n, 0), BAD);
        }
    }

    /** Promise 2 with "nothing changes then": of bytes that don't fit none is written. */
    private static void aFullTextTakesNothing() {
        String almost = "h0;" + "s0,0,10;".repeat(37);
        LyingBeacons x = new LyingBeacons();
        add(x, almost);
        for (int n = 2; n <= 8; n++) {
            due("2: full by " + n, x.write(n, bytes(";;;;;;;;", 0, n)), FULL);
        }
        due("2: 299 as before", x.count(5), 299);
        due("2: without fault as before", x.fault(), NONE);
        due("2: laid as before", x.lay(), 1);
        due("2: the last byte", x.write(1, ';'), 300);
        due("2: it is a fault", x.fault(), 299);
        due("2: no byte more", x.write(1, ';'), FULL);
        due("2: the fault as before", x.fault(), 299);
    }

    /** "A TEXT are bytes (300 at most)": the last of 300 counts. */
    private static void aWholeTextOfThreeHundredBytesIsRead() {
        String head = "h0;" + "s0,10,10;".repeat(32);
        LyingBeacons x = new LyingBeacons();
        add(x, head + "l0,50,60;");
        due("4: 300 bytes, the last item a fault", x.fault(), 291);
        due("5: not laid", x.lay(), NO);
        put(x, head + "l0,50,51;");
        due("2: 300 bytes", x.count(5), 300);
        due("4: without fault", x.fault(), NONE);
        due("5: laid", x.lay(), 1);
        due("5: the last item counts", x.seen(51), 1);
        put(x, head + "l00,50,51");
        due("4: 300 bytes that end in an item", x.fault(), 291);
    }

    /** Promise 3: "THE TEXT is empty: how long it was." */
    private static void wipeTellsHowLongItWas() {
        LyingBeacons x = new LyingBeacons();
        due("3: of an empty one", x.wipe(), 0);
        x.write(1, 'h');
        due("3: of one byte", x.wipe(), 1);
        due("3: of one wiped", x.wipe(), 0);
        add(x, ofLength(300));
        due("3: of a full one", x.wipe(), 300);
        due("3: empty", x.count(5), 0);
        add(x, ofLength(300));
        due("3: full again", x.count(5), 300);
    }

    /** Promise 3: "THE TEXT is empty": what is LAID, SHIPS and LOGS are no TEXT. */
    private static void wipeLeavesNothingBehind() {
        LyingBeacons x = laid("h1;h0;h0;");
        x.ship(1, 0, 0);
        x.log(2, 60);
        x.wipe();
        due("3: no fault", x.fault(), NONE);
        due("3: laid as before", x.count(0), 3);
        due("3: ship as before", x.seen(1), 1);
        due("3: logs as before", x.count(6), 1);
        add(x, "h3;");
        due("3: nothing of what was wiped", x.lay(), 1);
        due("3: but the new one", x.hill(0, 0), 3);
        put(x, "h0;h0;v0,1;");
        put(x, "h0");
        due("3: no end from what was wiped", x.fault(), 0);
        put(x, "h0;w0,7;");
        put(x, "h0;w0,");
        due("3: no number from what was wiped", x.fault(), 3);
    }

    /** Promise 4: "FAULT. NONE." */
    private static void anEmptyTextHasNoFault() {
        faultIs("", NONE);
        LyingBeacons x = new LyingBeacons();
        add(x, "x");
        x.wipe();
        due("4: a wiped one", x.fault(), NONE);
    }

    private static int startOfItem(String text, int place) {
        return text.lastIndexOf(';', place - 1) + 1;
    }

    /** "ITEMS one behind the other, each a letter, numbers .. and ;" */
    private static void anItemThatDoesNotEndIsAFault() {
        for (int length = 0; length <= ALL.length(); length++) {
            int start = startOfItem(ALL, length);
            faultIs(ALL.substring(0, length), start == length ? NONE : start);
        }
        faultIs(";", 0);
        faultIs("h0;;", 3);
        faultIs("h0;;h0;", 3);
        faultIs("h0,;", 0);
        faultIs("h,0;", 0);
        faultIs("h0 ;", 0);
        faultIs("h0; ", 3);
        faultIs(" h0;", 0);
        faultIs("h0;h0;v0,,1;", 6);
        faultIs("h0;h0;v0;1;", 6);
        faultIs("h0;h0;v0,1,;", 6);
    }

    /** "A TEXT are bytes": also those above 127, and each that is no part of an item. */
    private static void aByteOfNoItemIsAFault() {
        for (int at = 0; at < ALL.length(); at++) {
            for (char b = 0; b < 256; b++) {
                boolean part = LETTERS.indexOf(b) >= 0 || b == ',' || b == ';' || b >= '0' && b <= '9';
                if (!part) {
                    faultIs(ALL.substring(0, at) + b + ALL.substring(at + 1), startOfItem(ALL, at));
                }
            }
        }
    }

    /** "each a letter": h, v, r, w, s, g, l and no other. */
    private static void aLetterOfNoItemIsAFault() {
        String[] numbers = {"0", "0,1", "0,1,1", "0,1,1,1"};
        for (char letter = 0; letter < 256; letter++) {
            if (LETTERS.indexOf(letter) < 0) {
                for (String behind : numbers) {
                    faultIs(SEEN + letter + behind + ";", SEEN.length());
                }
            }
        }
    }

    /** "numbers (one or two figures)": for each number of each item none, three, and one with a 0 ahead. */
    private static void aNumberHasOneOrTwoFigures() {
        for (int at = 0; at < ALL.length(); at++) {
            boolean starts = Character.isDigit(ALL.charAt(at)) && !Character.isDigit(ALL.charAt(at - 1));
            if (starts) {
                int behind = Character.isDigit(ALL.charAt(at + 1)) ? at + 2 : at + 1;
                String head = ALL.substring(0, at);
                String number = ALL.substring(at, behind);
                String rest = ALL.substring(behind);
                int start = startOfItem(ALL, at);
                faultIs(head + rest, start);
                faultIs(head + "00".substring(number.length() - 1) + number + rest, start);
                faultIs(head + "0".repeat(2 - number.length()) + number + rest, NONE);
                faultIs(head + "-" + number + rest, start);
                faultIs(head + "+" + number + rest, start);
            }
        }
    }

    /** "numbers .. parted by ,": of each item as many as it is told with, whatever stood ahead of it. */
    private static void numbersAreNotMoreOrFewer() {
        String head = "h0;h0;h0;v0,1;v0,2;r2,1,1;w2,1;g0,2,1,1;";
        String[] items = {"v1,2", "r0,1,1", "w0,1", "s0,1,1", "g0,1,1,1", "l0,1,1"};
        for (String item : items) {
            fine(head, item + ";");
            faulty(head, item + ",1;", item + ",0;", item.substring(0, item.lastIndexOf(',')) + ";", item.substring(0, 2) + ";",
                item.charAt(0) + ";");
        }
        faulty("", "h0,0;", "h1,1,1;", "h;");
    }

    /** "FAULT: the place of the first byte of the first ITEM that is not so." */
    private static void theFirstFaultIsTold() {
        faultIs("h4;h0;", 0);
        faultIs("h0;h4;h4;", 3);
        faultIs("h0;w0,1;w0,1;h0;h9;", 8);
        faultIs("h0;r0,0,1;v0,0;", 3);
        faultIs("h0;h0;v0,1;s0,9,8;v1,0", 11);
        faultIs("x".repeat(300), 0);
        faultIs("h0;" + "s0,0,10;".repeat(37) + "h", 299);
    }

    /** "hK a HILL of KIND K: 0 RELAY, 1 HEAD .., 2 EAR .., 3 SPARE". */
    private static void kindsAreZeroToThree() {
        fine("", "h0;", "h1;", "h2;", "h3;", "h00;", "h03;");
        for (int kind = 4; kind <= 99; kind++) {
            faulty("", "h" + kind + ";");
        }
        for (int kind = 0; kind <= 3; kind++) {
            due("6: kind " + kind, laid("h" + kind + ";").hill(0, 0), kind);
        }
    }

    /** "2 EAR (the king's; one at most)". */
    private static void oneEarAtMost() {
        fine("h2;", "h0;", "h1;", "h3;");
        faulty("h2;", "h2;", "h02;");
        faulty("h0;h1;h2;h3;", "h2;");
        faulty("h2;h0;h0;h0;h0;h0;h0;h0;h0;", "h2;");
    }

    /** "10 at most, 0, 1, .. as they come". */
    private static void tenHillsAtMost() {
        for (int kind = 0; kind <= 3; kind++) {
            String ten = kind == 2 ? "h2;" + "h0;".repeat(9) : ("h" + kind + ";").repeat(10);
            fine(ten);
            faulty(ten, "h0;", "h1;", "h2;", "h3;");
        }
        String kinds = "1032013001";
        LyingBeacons x = laid(hills(kinds));
        due("29: ten hills", x.count(0), 10);
        for (int h = 0; h < 10; h++) {
            due("6: hill " + h + " as it came", x.hill(h, 0), kinds.charAt(h) - '0');
        }
        due("6: no hill 10", x.hill(10, 0), BAD);
    }

    /** "all h are ahead of all else". */
    private static void hillsAreAheadOfAllElse() {
        for (String item : new String[] {"r0,1,1;", "w0,1;", "s0,1,1;", "l0,1,1;", "v0,1;"}) {
            faulty(TWO + item, "h0;", "h1;", "h2;", "h3;");
        }
        faulty(SEEN + "g0,1,1,1;", "h0;");
        faulty("", "v0,1;", "r0,1,1;", "w0,1;", "s0,1,1;", "g0,1,1,1;", "l0,1,1;");
    }

    /** "vA,B A sees B, and B sees A": both are HILLS. */
    private static void sightsAreOfHills() {
        fine(TWO, "v0,1;", "v1,0;", "v00,01;");
        faulty(TWO, "v0,2;", "v2,0;", "v1,2;", "v2,1;", "v2,3;", "v0,10;", "v10,0;", "v0,99;", "v99,0;");
        fine(TEN, "v0,9;", "v9,0;", "v8,9;");
        faulty(TEN, "v0,10;", "v10,0;", "v9,10;", "v10,9;", "v9,99;", "v99,9;");
        LyingBeacons x = laid(TEN + "v9,0;");
        due("6: A sees B", x.hill(9, 1), 1);
        due("6: B sees A", x.hill(0, 1), 1 << 9);
        due("6: others see nobody", x.hill(1, 1), 0);
        fine("h0;h1;h2;h3;", allSights(4));
    }

    /** "(unlike HILLS; ..)". */
    private static void sightsAreOfUnlikeHills() {
        for (int h = 0; h < 10; h++) {
            faulty(TEN, "v" + h + "," + h + ";");
        }
        faulty("h0;", "v0,0;", "v0,00;");
    }

    /** "(..; once each)": v1,0 tells the same as v0,1. */
    private static void sightsAreOnceEach() {
        faulty(SEEN, "v0,1;", "v1,0;", "v00,1;");
        faulty("h0;h0;v1,0;", "v0,1;", "v1,0;");
        fine("h0;h0;h0;v0,1;", "v0,2;", "v1,2;", "v2,0;");
        String full = TEN + allSights(10);
        fine(full);
        LyingBeacons x = laid(full);
        due("29: all sights", x.count(1), 45);
        for (int h = 0; h < 10; h++) {
            due("6: sees all others", x.hill(h, 1), 1023 & ~(1 << h));
        }
        for (int a = 0; a < 10; a++) {
            faulty(full, "v" + a + "," + (a + 1) % 10 + ";");
        }
    }

    /** "rA,k,m RULE of A .. once each". */
    private static void rulesAreOfHillsOnceEach() {
        fine(TWO, "r0,1,1;", "r1,1,1;", "r0,2,2;r1,2,2;");
        faulty(TWO, "r2,1,1;", "r10,1,1;", "r99,1,1;");
        fine(TEN, "r9,1,1;");
        faulty(TEN, "r10,1,1;");
        faulty(TWO + "r0,1,1;", "r0,1,1;", "r0,2,2;");
        faulty(TWO + "r1,2,2;r0,1,1;", "r1,1,1;");
        faulty(TEN + "r9,1,1;", "r9,1,1;");
        fine("h2;h3;", "r0,9,9;r1,9,9;");
    }

    /** "k HILLS (1 to 9) that it sees burn, each for m minutes (1 to 9) on end". */
    private static void rulesAreOneToNine() {
        faulty("h0;", "r0,0,1;", "r0,00,1;", "r0,1,0;", "r0,0,0;", "r0,10,1;", "r0,1,10;", "r0,99,1;", "r0,1,99;");
        for (int k = 1; k <= 9; k++) {
            for (int m = 1; m <= 9; m++) {
                LyingBeacons x = laid("h0;r0," + k + "," + m + ";");
                due("6: k", x.hill(0, 2), k);
                due("6: m", x.hill(0, 3), m);
            }
        }
    }

    /** "(1, 1 without)". */
    private static void rulesAreOneAndOneWithout() {
        for (int kind = 0; kind <= 3; kind++) {
            LyingBeacons x = laid("h0;h" + kind + ";r0,9,9;");
            due("6: k without", x.hill(1, 2), 1);
            due("6: m without", x.hill(1, 3), 1);
        }
    }

    /** "wA,n WOOD of A for n minutes (0 to 99; 99 without); once each". */
    private static void woodIsZeroToNinetyNineOnceEach() {
        for (int n = 0; n <= 99; n++) {
            due("6: wood " + n, laid("h0;w0," + n + ";").hill(0, 4), n);
        }
        faulty("h0;", "w0,100;", "w0,099;", "w0,000;", "w1,5;", "w10,5;", "w99,5;");
        fine(TEN, "w9,5;");
        faulty(TEN, "w10,5;");
        for (int kind = 0; kind <= 3; kind++) {
            due("6: wood without", laid("h0;h" + kind + ";w0,0;").hill(1, 4), 99);
            due("6: wood with", laid("h0;h" + kind + ";w1,0;").hill(1, 4), 0);
        }
        faulty(TWO + "w0,5;", "w0,5;", "w0,99;");
        fine(TWO + "w0,5;", "w1,5;");
        faulty(TWO + "w0,99;w1,99;", "w0,99;", "w1,99;");
    }

    private static void minutesAreOfANight(String head, String item) {
        fine(head, item + "0,0;", item + "0,59;", item + "59,59;", item + "58,59;", item + "30,30;", item + "00,01;");
        faulty(head, item + "0,60;", item + "59,60;", item + "60,60;", item + "60,0;", item + "60,59;", item + "0,99;",
            item + "99,99;", item + "99,0;");
        faulty(head, item + "1,0;", item + "59,58;", item + "59,0;", item + "31,30;", item + "10,9;");
    }

    /** "sA,a,b A is asleep in minutes a to b (0 to 59, a no more than b)". */
    private static void sleepIsInMinutesOfANight() {
        for (int kind = 0; kind <= 3; kind++) {
            minutesAreOfANight("h" + kind + ";", "s0,");
        }
        faulty("h0;", "s1,0,0;", "s10,0,0;");
        fine(TEN, "s9,0,0;", "s9,0,0;s9,0,0;s9,5,7;s9,6,8;");
        faulty(TEN, "s10,0,0;");
    }

    /** "gA,B,a,b mist between A and B (who see one another)". */
    private static void mistIsWhereTheySeeOneAnother() {
        fine(SEEN, "g0,1,0,0;", "g1,0,0,0;", "g0,1,0,0;g1,0,0,0;g0,1,0,0;");
        faulty(SEEN, "g0,0,0,0;", "g1,1,0,0;", "g0,2,0,0;", "g2,0,0,0;", "g1,10,0,0;", "g10,1,0,0;", "g99,99,0,0;");
        faulty(TWO, "g0,1,0,0;", "g1,0,0,0;", "g0,1,0,0;v0,1;");
        faulty("h0;h0;h0;v0,1;v1,2;", "g0,2,0,0;", "g2,0,0,0;");
        fine(TEN + "v9,8;", "g8,9,0,0;", "g9,8,0,0;");
        faulty(TEN + "v9,8;", "g7,9,0,0;", "g9,10,0,0;");
    }

    /** "mist .. in minutes a to b (0 to 59)". */
    private static void mistIsInMinutesOfANight() {
        minutesAreOfANight(SEEN, "g0,1,");
        minutesAreOfANight("h2;h3;v1,0;", "g0,1,");
    }

    /** "lA,a,b A is a LIAR .. not the EAR, no SPARE". */
    private static void liarsAreNeitherEarNorSpare() {
        fine("h0;", "l0,0,0;");
        fine("h1;", "l0,0,0;");
        faulty("h2;", "l0,0,0;");
        faulty("h3;", "l0,0,0;");
        faulty("h0;h1;h2;h3;l0,0,0;l1,0,0;", "l2,0,0;", "l3,0,0;", "l4,0,0;", "l10,0,0;", "l99,0,0;");
        fine(TEN, "l9,0,0;");
        faulty(TEN, "l10,0,0;");
    }

    /** "burns in minutes a to b of a night (0 to 59)". */
    private static void liesAreInMinutesOfANight() {
        minutesAreOfANight("h0;", "l0,");
        minutesAreOfANight("h1;", "l0,");
        fine("h0;", "l0,0,0;l0,0,0;l0,0,59;l0,5,9;");
    }

    /** Promise 5: "LAID: how many HILLS". */
    private static void layTellsHowManyHills() {
        LyingBeacons x = new LyingBeacons();
        for (int n = 0; n <= 10; n++) {
            put(x, "h0;".repeat(n));
            due("5: so many hills", x.lay(), n);
            due("29: so many hills", x.count(0), n);
            due("6: the first that is none", x.hill(n, 0), BAD);
        }
        put(x, "h1;");
        due("5: one behind ten", x.lay(), 1);
        due("6: nothing of the ten", x.hill(1, 0), BAD);
        due("5: twice", x.lay(), 1);
    }

    /** Promise 5: "LOGS are not written, no SHIP." */
    private static void layForgetsLogsAndShip() {
        LyingBeacons x = laid("h1;h0;");
        x.ship(1, 0, 0);
        x.log(0, 60);
        x.log(1, 0);
        due("5: the same text", x.lay(), 2);
        due("5: logs", x.count(6), 0);
        due("5: log 0", x.log(0, -1), -1);
        due("5: log 1", x.log(1, -1), -1);
        due("5: ship", x.seen(1), 0);
        x.ship(1, 0, 0);
        x.log(0, 5);
        put(x, "");
        due("5: an empty text", x.lay(), 0);
        due("5: no log of it", x.count(6), 0);
        put(x, "h1;h0;");
        x.lay();
        due("5: no ship from earlier", x.seen(59), 0);
        due("5: no log from earlier", x.count(6), 0);
    }

    private static String told(LyingBeacons x) {
        x.ship(1, 20, 20);
        StringBuilder s = new StringBuilder();
        for (int h = 0; h < 5; h++) {
            for (int what = 0; what <= 4; what++) {
                s.append(x.hill(h, what)).append(' ');
            }
        }
        for (int minute = 0; minute < 60; minute++) {
            s.append(x.seen(minute)).append(' ');
        }
        for (int what = 0; what <= 7; what++) {
            s.append(x.count(what)).append(' ');
        }
        return s.append(x.alarm()).toString();
    }

    /** Promise 5: "LAID": nothing of what was laid, asked or refused ahead of it. */
    private static void layForgetsWhatWasLaid() {
        String plain = "h1;h0;h0;h2;v0,1;v1,2;v2,3;";
        String crowded = "h1;h0;h0;h2;v0,1;v0,2;v1,2;v2,3;r0,9,9;r1,2,1;r2,1,9;r3,1,4;w0,5;w1,6;w2,7;w3,8;"
            + "s0,0,5;s1,20,30;s2,0,59;s3,0,59;g0,1,0,59;g2,1,0,59;g3,2,0,59;l1,0,4;l2,7,7;";
        String want = told(laid(plain));
        LyingBeacons x = laid(crowded);
        due("5: another night ahead", !told(x).equals(want));
        put(x, plain);
        due("5: laid", x.lay(), 4);
        due("5: nothing of what was laid", told(x).equals(want));
        x = new LyingBeacons();
        put(x, crowded + "h0;");
        due("4: a fault behind all that", x.fault(), crowded.length());
        due("5: not laid", x.lay(), NO);
        put(x, plain);
        due("5: laid", x.lay(), 4);
        due("5: nothing of what was refused", told(x).equals(want));
    }

    /** Promise 5: "NO: a FAULT." */
    private static void layWithAFaultLeavesWhatIsLaid() {
        LyingBeacons x = laid("h1;h0;v0,1;r1,1,2;w1,9;");
        x.ship(1, 0, 0);
        x.log(1, 60);
        put(x, "h3;h3;h3;w0,1;w0,2;");
        due("5: a fault in the last item", x.lay(), NO);
        put(x, "x");
        due("5: a fault in the first", x.lay(), NO);
        due("5: hills", x.count(0), 2);
        due("5: kind", x.hill(0, 0), 1);
        due("5: wood", x.hill(1, 4), 9);
        due("5: ship", x.seen(1), 1);
        due("5: rule", x.seen(3), 3);
        due("5: log", x.log(1, 60), 60);
        due("5: the text", x.count(5), 1);
    }

    /** Promise 6: "KIND (what = 0), HILLS that it sees as bits (1), k (2), m (3), WOOD (4). BAD." */
    private static void hillTellsFiveThings() {
        LyingBeacons x = laid("h3;h1;v0,1;r0,4,5;w0,6;");
        int[] want = {3, 2, 4, 5, 6};
        for (int what = 0; what <= 4; what++) {
            due("6: what " + what, x.hill(0, what), want[what]);
        }
        for (int what : new int[] {LEAST, -1, 5, 256, GREATEST}) {
            due("6: what " + what, x.hill(0, what), BAD);
        }
        x = laid("h1;w0,9;");
        x.ship(1, 0, 59);
        due("10: burnt", x.wood(0), 0);
        due("6: WOOD as told, not as left", x.hill(0, 4), 9);
    }

    /** Promise 6: "Of a HILL .. BAD." */
    private static void hillIsOneThatIsLaid() {
        for (int n = 1; n <= 10; n++) {
            LyingBeacons x = laid("h0;".repeat(n));
            due("6: the last of " + n, x.hill(n - 1, 0), 0);
            for (int hill : new int[] {LEAST, -1, n, n + 32, 256, GREATEST}) {
                for (int what = 0; what <= 4; what++) {
                    due("6: hill " + hill + " of " + n, x.hill(hill, what), BAD);
                }
            }
        }
    }
}
