/**
 * The sentences on a NIGHT that name a boundary case, a test each: 'Terms', part 1, behind LAID, and promises
 * 7 to 11. What a test quotes is the sentence that it would show broken.
 */
public final class NightBoundsTest extends Bench {
    /** A relay beside a liar who burns all night. */
    private static final String BESIDE_A_FIRE = "h0;h0;v0,1;l0,0,59;";

    public static void main(String[] args) {
        shipsAreSeenByHeadsAlone();
        shipsAreSeenInMinutesOfANight();
        thereIsOneShipAtMost();
        thereIsNoShipAtFirst();
        aShipCanBeSeenByNobody();

        burnsTellsOfHillsAndMinutes();
        seenTellsOfMinutes();
        woodTellsOfHills();
        alarmTellsOfAnEar();

        inMinuteZeroLiarsAlone();
        aShipCountsInTheMinuteBehind();
        whoBurntAheadGoesOn();
        aSpareNeverBurns();
        theEarNeverBurns();
        sleepCountsInItsMinutes();
        mistCountsInItsMinutes();
        mistIsBetweenTwo();
        kHillsMustBurn();
        mMinutesOnEnd();
        eachOfThemForAllMinutes();
        minutesAheadOfTheNightAreDark();
        woodEnds();
        woodOfLiarsEnds();
        liarsBurnAsTold();
        liarsDoNothingElse();

        alarmIsTheLastOfTheMinutes();
        alarmIsTheFirstMinute();
        anEarAsleepHearsNothing();
        anEarNeedsNoWood();
        end();
    }

    private static String fires(LyingBeacons x, int hill) {
        StringBuilder s = new StringBuilder();
        for (int minute = 0; minute < 60; minute++) {
            s.append(x.burns(hill, minute) == 1 ? '1' : '0');
        }
        return s.toString();
    }

    /** The hill burns in these minutes (first to last, pair by pair) and in no other. */
    private static void burning(String what, LyingBeacons x, int hill, int... spans) {
        StringBuilder want = new StringBuilder("0".repeat(60));
        for (int i = 0; i + 1 < spans.length; i += 2) {
            for (int minute = spans[i]; minute <= spans[i + 1]; minute++) {
                want.setCharAt(minute, '1');
            }
        }
        String got = fires(x, hill);
        due(what + ", " + got + " for " + want, got.contentEquals(want));
    }

    /** Promise 7: "seen by HEADS (bits; ..) .. BAD (others than HEADS, too)." */
    private static void shipsAreSeenByHeadsAlone() {
        LyingBeacons x = laid("h1;h0;h2;h3;h1;");
        for (int heads = 0; heads < 64; heads++) {
            due("7: heads " + heads, x.ship(heads, 0, 0), (heads & ~17) == 0 ? 0 : BAD);
        }
        x = laid(hills("1111111111"));
        due("7: ten heads", x.ship(1023, 0, 0), 0);
        due("7: they burn", x.seen(1), 1023);
        for (int bit = 10; bit < 32; bit++) {
            due("7: no hill " + bit, x.ship(1 << bit, 0, 0), BAD);
            due("7: heads and no hill " + bit, x.ship(1 | 1 << bit, 0, 0), BAD);
        }
        for (int heads : new int[] {LEAST, LEAST + 1, -1, 1024, GREATEST}) {
            due("7: heads " + heads, x.ship(heads, 0, 0), BAD);
        }
        due("7: they burn as before", x.seen(1), 1023);
    }

    /** Promise 7: "in minutes a to b: 0. BAD". */
    private static void shipsAreSeenInMinutesOfANight() {
        LyingBeacons x = laid("h1;");
        for (int[] told : new int[][] {{0, 0}, {0, 59}, {59, 59}, {58, 59}, {30, 30}}) {
            due("7: " + told[0] + " to " + told[1], x.ship(1, told[0], told[1]), 0);
        }
        x.ship(1, 10, 10);
        for (int beyond : new int[] {LEAST, LEAST + 1, -64, -1, 60, 64, 256, GREATEST}) {
            due("7: a " + beyond, x.ship(1, beyond, 59), BAD);
            due("7: b " + beyond, x.ship(1, 0, beyond), BAD);
            due("7: both " + beyond, x.ship(1, beyond, beyond), BAD);
            due("7: a " + beyond + " and nobody", x.ship(0, beyond, 59), BAD);
            due("7: b " + beyond + " and nobody", x.ship(0, 0, beyond), BAD);
        }
        due("7: a above b", x.ship(1, 1, 0), BAD);
        due("7: a far above b", x.ship(1, 59, 0), BAD);
        due("7: a above b and nobody", x.ship(0, 59, 58), BAD);
        burning("7: the ship as before", x, 0, 11, 59);
    }

    /** "SHIPS: HEADS (a set) see one in minutes a to b (one at most; ..)". */
    private static void thereIsOneShipAtMost() {
        LyingBeacons x = laid("h1;h1;");
        x.ship(1, 5, 6);
        x.ship(2, 30, 31);
        burning("7: the first is gone", x, 0);
        burning("7: the second is there", x, 1, 31, 59);
        x.ship(2, 50, 50);
        burning("7: the third is there", x, 1, 51, 59);
    }

    /** "(one at most; none at first)". */
    private static void thereIsNoShipAtFirst() {
        LyingBeacons x = laid(hills("1111111111"));
        for (int minute = 0; minute < 60; minute++) {
            due("7: none at first", x.seen(minute), 0);
        }
    }

    /** Promise 7: "(bits; 0: none)". */
    private static void aShipCanBeSeenByNobody() {
        LyingBeacons x = laid("h1;");
        x.ship(1, 5, 5);
        due("7: nobody", x.ship(0, 0, 59), 0);
        burning("7: none", x, 0);
        due("7: on no head", laid("h0;").ship(0, 59, 59), 0);
    }

    /** Promise 8: "1: a HILL burns in a minute; 0. BAD.", "A NIGHT has minutes 0 to 59." */
    private static void burnsTellsOfHillsAndMinutes() {
        LyingBeacons x = laid("h0;h0;h0;l0,0,59;l2,0,59;");
        for (int minute : new int[] {0, 1, 58, 59}) {
            due("8: burns(0, " + minute + ")", x.burns(0, minute), 1);
            due("8: burns(1, " + minute + ")", x.burns(1, minute), 0);
            due("8: burns(2, " + minute + ")", x.burns(2, minute), 1);
        }
        for (int minute : new int[] {LEAST, -64, -1, 60, 63, 64, 256, GREATEST}) {
            due("8: minute " + minute, x.burns(0, minute), BAD);
        }
        for (int hill : new int[] {LEAST, -1, 3, 9, 10, 32, 34, 256, GREATEST}) {
            due("8: hill " + hill, x.burns(hill, 0), BAD);
            due("8: hill " + hill + " in minute 60", x.burns(hill, 60), BAD);
        }
        x = laid(hills("0000000000") + "l9,59,59;");
        due("8: the last hill in the last minute", x.burns(9, 59), 1);
        due("8: the last hill ahead of it", x.burns(9, 58), 0);
    }

    /** Promise 9: "HILLS that burn in a minute, as bits. BAD." */
    private static void seenTellsOfMinutes() {
        LyingBeacons x = laid(hills("0101010101") + "l0,0,0;l9,0,59;l5,59,59;");
        due("9: minute 0", x.seen(0), 513);
        due("9: minute 1", x.seen(1), 512);
        due("9: minute 58", x.seen(58), 512);
        due("9: minute 59", x.seen(59), 544);
        for (int minute : new int[] {LEAST, -64, -1, 60, 63, 64, 256, GREATEST}) {
            due("9: minute " + minute, x.seen(minute), BAD);
        }
        StringBuilder all = new StringBuilder(hills("1111111111"));
        for (int h = 0; h < 10; h++) {
            all.append('l').append(h).append(",0,59;");
        }
        due("9: all ten", laid(all.toString()).seen(59), 1023);
    }

    /** Promise 10: "WOOD left of a HILL behind the NIGHT. BAD." */
    private static void woodTellsOfHills() {
        LyingBeacons x = laid("h0;h0;w1,7;");
        due("10: without", x.wood(0), 99);
        due("10: with", x.wood(1), 7);
        for (int hill : new int[] {LEAST, -1, 2, 9, 10, 32, 256, GREATEST}) {
            due("10: hill " + hill, x.wood(hill), BAD);
        }
        due("10: the last of ten", laid(hills("0000000000") + "w9,0;").wood(9), 0);
    }

    /** Promise 11: "THE ALARM. NONE; NO: no EAR." */
    private static void alarmTellsOfAnEar() {
        due("11: no ear, no fire", laid("h1;h0;h3;v0,1;").alarm(), NO);
        due("11: no ear, a fire", laid(BESIDE_A_FIRE).alarm(), NO);
        due("11: an ear that sees nobody", laid("h0;h2;l0,0,59;").alarm(), NONE);
        due("11: an ear alone", laid("h2;").alarm(), NONE);
        due("11: an ear that is the last hill", laid("h0;h0;h0;h0;h0;h0;h0;h0;h0;h2;v9,0;l0,7,7;").alarm(), 7);
        due("11: an ear that is the first hill", laid("h2;h0;v0,1;l1,7,7;").alarm(), 7);
    }

    /** "(In minute 0 LIARS alone.)" */
    private static void inMinuteZeroLiarsAlone() {
        LyingBeacons x = laid("h1;h1;h0;l1,0,0;v1,2;");
        x.ship(1, 0, 0);
        due("8: a liar in minute 0", x.seen(0), 2);
        due("8: the others from minute 1 on", x.seen(1), 5);
    }

    /** "being a HEAD, saw a ship in that minute ahead". */
    private static void aShipCountsInTheMinuteBehind() {
        LyingBeacons x = laid("h1;");
        x.ship(1, 0, 0);
        burning("8: by minute 0", x, 0, 1, 59);
        x.ship(1, 58, 58);
        burning("8: by minute 58", x, 0, 59, 59);
        x.ship(1, 59, 59);
        burning("8: by minute 59", x, 0);
        x = laid("h1;s0,1,5;");
        x.ship(1, 0, 4);
        burning("8: a ship that is gone when it wakes", x, 0);
        x.ship(1, 0, 5);
        burning("8: a ship in the last minute of sleep", x, 0, 6, 59);
    }

    /** "if it burnt in the minute ahead". */
    private static void whoBurntAheadGoesOn() {
        LyingBeacons x = laid("h0;h0;v0,1;l0,3,3;");
        burning("8: goes on behind the fire that it saw", x, 1, 4, 59);
        x = laid("h0;h0;v0,1;l0,3,3;s1,30,30;");
        burning("8: not behind its sleep", x, 1, 4, 29);
        x = laid("h0;h0;v0,1;l0,58,58;");
        burning("8: in the last minute", x, 1, 59, 59);
        x = laid("h0;h0;v0,1;l0,59,59;");
        burning("8: too late", x, 1);
    }

    /** "another one, not SPARE". */
    private static void aSpareNeverBurns() {
        LyingBeacons x = laid("h0;h3;h0;v0,1;v1,2;l0,0,59;");
        burning("8: a spare", x, 1);
        burning("8: behind a spare", x, 2);
        due("10: its wood", x.wood(1), 99);
    }

    /** "The EAR never burns." */
    private static void theEarNeverBurns() {
        LyingBeacons x = laid("h0;h2;h0;v0,1;v1,2;l0,0,59;");
        burning("8: the ear", x, 1);
        burning("8: behind the ear", x, 2);
        due("11: it hears", x.alarm(), 0);
        due("10: its wood", x.wood(1), 99);
    }

    /** "A is asleep in minutes a to b", "not asleep". */
    private static void sleepCountsInItsMinutes() {
        burning("8: none", laid(BESIDE_A_FIRE), 1, 1, 59);
        burning("8: asleep in 0", laid(BESIDE_A_FIRE + "s1,0,0;"), 1, 1, 59);
        burning("8: asleep in 1", laid(BESIDE_A_FIRE + "s1,1,1;"), 1, 2, 59);
        burning("8: asleep in 5 to 9", laid(BESIDE_A_FIRE + "s1,5,9;"), 1, 1, 4, 10, 59);
        burning("8: asleep in 59", laid(BESIDE_A_FIRE + "s1,59,59;"), 1, 1, 58);
        burning("8: asleep all night", laid(BESIDE_A_FIRE + "s1,0,59;"), 1);
        burning("8: asleep but in 59", laid(BESIDE_A_FIRE + "s1,0,58;"), 1, 59, 59);
        burning("8: asleep by two items", laid(BESIDE_A_FIRE + "s1,5,9;s1,7,12;s1,20,20;"), 1, 1, 4, 13, 19, 21, 59);
        burning("8: another one asleep", laid("h0;h0;h0;v0,1;l0,0,59;s2,0,59;"), 1, 1, 59);
        due("10: sleep takes no wood", laid(BESIDE_A_FIRE + "s1,5,9;").wood(1), 99 - 54);
    }

    /** "mist between A and B .. in minutes a to b", "without mist in these minutes". */
    private static void mistCountsInItsMinutes() {
        String fire = "h0;h0;v0,1;l0,10,10;";
        burning("8: none", laid(fire), 1, 11, 59);
        burning("8: ahead of it", laid(fire + "g0,1,0,9;"), 1, 11, 59);
        burning("8: in its minute", laid(fire + "g0,1,10,10;"), 1);
        burning("8: in its minute, told the other way", laid(fire + "g1,0,10,10;"), 1);
        burning("8: behind it", laid(fire + "g0,1,11,59;"), 1, 11, 59);
        burning("8: in the last of its minutes", laid(fire + "g0,1,5,10;"), 1);
        burning("8: in the first of its minutes", laid(fire + "g0,1,10,15;"), 1);
        burning("8: in minute 0", laid("h0;h0;v0,1;l0,0,0;g0,1,0,0;"), 1);
        burning("8: in minute 1", laid("h0;h0;v0,1;l0,0,0;g0,1,1,1;"), 1, 1, 59);
        burning("8: all night", laid(BESIDE_A_FIRE + "g0,1,0,59;"), 1);
        burning("8: all but the last that counts", laid(BESIDE_A_FIRE + "g0,1,0,57;"), 1, 59, 59);
        burning("8: all that count", laid(BESIDE_A_FIRE + "g0,1,0,58;"), 1);
        for (String two : new String[] {"g0,1,0,5;g1,0,4,9;", "g1,0,0,5;g0,1,4,9;", "g0,1,0,5;g0,1,4,9;", "g1,0,4,9;g1,0,0,5;"}) {
            burning("8: by two items, " + two, laid(BESIDE_A_FIRE + two), 1, 11, 59);
        }
        burning("8: three minutes on end behind mist", laid(BESIDE_A_FIRE + "r1,1,3;g0,1,2,2;"), 1, 6, 59);
        burning("8: three minutes on end ahead of mist", laid(BESIDE_A_FIRE + "r1,1,3;g0,1,3,3;"), 1, 3, 59);
        due("11: mist in 59", laid("h0;h2;v0,1;l0,59,59;g0,1,59,59;").alarm(), NONE);
        due("11: mist in 58", laid("h0;h2;v0,1;l0,59,59;g0,1,58,58;").alarm(), 59);
    }

    /** "mist between A and B": not between others. */
    private static void mistIsBetweenTwo() {
        LyingBeacons x = laid("h0;h0;h0;v0,1;v0,2;l0,5,5;g0,1,0,59;");
        burning("8: in mist", x, 1);
        burning("8: beside it", x, 2, 6, 59);
        x = laid("h0;h0;h0;h0;h0;h0;h0;h0;h0;h0;v8,9;v0,9;l8,5,5;l0,7,7;g9,8,0,59;");
        burning("8: of the last two", x, 9, 8, 59);
    }

    private static String liarsAround(int liars, String rule) {
        StringBuilder s = new StringBuilder(hills("0000000000") + star(9) + rule);
        for (int h = 1; h <= liars; h++) {
            s.append('l').append(h).append(",4,4;");
        }
        return s.toString();
    }

    /** "its RULE held then: k HILLS that it sees .. burnt". */
    private static void kHillsMustBurn() {
        for (int k = 1; k <= 9; k++) {
            for (int liars = 0; liars <= 9; liars++) {
                LyingBeacons x = laid(liarsAround(liars, "r0," + k + ",1;"));
                due("8: " + liars + " for " + k + ", ahead", x.burns(0, 4), 0);
                due("8: " + liars + " for " + k, x.burns(0, 5), liars >= k ? 1 : 0);
            }
        }
    }

    /** "in each of the m minutes up to that one ahead". */
    private static void mMinutesOnEnd() {
        for (int m = 1; m <= 9; m++) {
            for (int length = 1; length <= 10; length++) {
                LyingBeacons x = laid("h0;h0;v0,1;l0,20," + (19 + length) + ";r1,1," + m + ";");
                if (length >= m) {
                    burning("8: " + length + " minutes for " + m, x, 1, 20 + m, 59);
                } else {
                    burning("8: " + length + " minutes for " + m, x, 1);
                }
            }
        }
        burning("8: not on end", laid("h0;h0;v0,1;l0,20,21;l0,23,24;r1,1,3;"), 1);
        burning("8: on end by two items", laid("h0;h0;v0,1;l0,20,21;l0,22,22;r1,1,3;"), 1, 23, 59);
    }

    /** "burnt in each of the m minutes": one and the same hill. */
    private static void eachOfThemForAllMinutes() {
        String two = "h0;h0;h0;v0,1;v0,2;";
        burning("8: by turns", laid(two + "l1,5,5;l2,6,6;r0,1,2;"), 0);
        burning("8: one long enough", laid(two + "l1,5,5;l2,6,7;r0,1,2;"), 0, 8, 59);
        burning("8: two for a minute", laid(two + "l1,5,6;l2,6,7;r0,2,1;"), 0, 7, 59);
        burning("8: two for two minutes, one too short", laid(two + "l1,5,6;l2,6,7;r0,2,2;"), 0);
        burning("8: two for two minutes", laid(two + "l1,5,7;l2,6,7;r0,2,2;"), 0, 8, 59);
    }

    /** "A NIGHT has minutes 0 to 59": nothing burnt ahead of minute 0. */
    private static void minutesAheadOfTheNightAreDark() {
        for (int m = 1; m <= 9; m++) {
            LyingBeacons x = laid(BESIDE_A_FIRE + "r1,1," + m + ";");
            burning("8: from minute " + m, x, 1, m, 59);
            due("10: the rest", x.wood(1), 99 - 60 + m);
        }
    }

    /** "with WOOD left", "A minute of burning takes a minute of WOOD". */
    private static void woodEnds() {
        burning("8: wood for none", laid(BESIDE_A_FIRE + "w1,0;"), 1);
        for (int n : new int[] {1, 2, 30, 58, 59}) {
            LyingBeacons x = laid(BESIDE_A_FIRE + "w1," + n + ";");
            burning("8: wood for " + n, x, 1, 1, n);
            due("10: wood for " + n, x.wood(1), 0);
        }
        due("10: wood for one more", laid(BESIDE_A_FIRE + "w1,60;").wood(1), 1);
        due("10: wood without", laid(BESIDE_A_FIRE).wood(1), 99 - 59);
        LyingBeacons x = laid("h1;w0,2;s0,2,50;");
        x.ship(1, 0, 59);
        burning("8: the second minute behind sleep", x, 0, 1, 1, 51, 51);
    }

    /** "of LIARS, too: without it they don't burn." */
    private static void woodOfLiarsEnds() {
        LyingBeacons x = laid("h0;l0,0,59;");
        burning("8: all night", x, 0, 0, 59);
        due("10: all night", x.wood(0), 39);
        for (int n : new int[] {0, 1, 59, 60, 61, 99}) {
            x = laid("h0;l0,0,59;w0," + n + ";");
            due("10: a liar with " + n, x.wood(0), Math.max(0, n - 60));
            due("8: a liar with " + n + " in 0", x.burns(0, 0), n >= 1 ? 1 : 0);
            due("8: a liar with " + n + " in 59", x.burns(0, 59), n >= 60 ? 1 : 0);
        }
        burning("8: over a gap", laid("h1;l0,3,4;l0,8,9;w0,3;"), 0, 3, 4, 8, 8);
    }

    /** "A is a LIAR: burns in minutes a to b of a night (0 to 59), and in none that no such ITEM tells". */
    private static void liarsBurnAsTold() {
        burning("8: in 0", laid("h0;l0,0,0;"), 0, 0, 0);
        burning("8: in 59", laid("h0;l0,59,59;"), 0, 59, 59);
        burning("8: at both ends", laid("h1;l0,58,59;l0,0,1;"), 0, 0, 1, 58, 59);
        burning("8: told twice", laid("h0;l0,5,9;l0,5,9;"), 0, 5, 9);
        due("10: told twice, burnt once", laid("h0;l0,5,9;l0,7,11;").wood(0), 99 - 7);
    }

    /** "a LIAR as told; another one ..": no ship, no RULE, no sleep, no fire of its own counts for a LIAR. */
    private static void liarsDoNothingElse() {
        LyingBeacons x = laid("h1;h0;v0,1;l0,5,5;l1,0,59;s0,0,59;");
        x.ship(1, 0, 59);
        burning("8: in its minute, asleep", x, 0, 5, 5);
    }

    /** "THE ALARM: the first minute up to which the RULE of the EAR held (it is the last of the m minutes; ..)". */
    private static void alarmIsTheLastOfTheMinutes() {
        for (int m = 1; m <= 9; m++) {
            String net = "h0;h2;v0,1;r1,1," + m + ";";
            due("11: from 0 on for " + m, laid(net + "l0,0,59;").alarm(), m - 1);
            due("11: long enough for " + m, laid(net + "l0,20," + (19 + m) + ";").alarm(), 19 + m);
            if (m > 1) {
                due("11: too short for " + m, laid(net + "l0,20," + (18 + m) + ";").alarm(), NONE);
            }
            due("11: just in time for " + m, laid(net + "l0," + (60 - m) + ",59;").alarm(), 59);
            if (m > 1) {
                due("11: too late for " + m, laid(net + "l0," + (61 - m) + ",59;").alarm(), NONE);
            }
        }
    }

    /** "THE ALARM: the first minute". */
    private static void alarmIsTheFirstMinute() {
        due("11: of two", laid("h0;h2;v0,1;l0,40,40;l0,9,9;").alarm(), 9);
        due("11: in 0", laid("h0;h2;v0,1;l0,0,0;l0,59,59;").alarm(), 0);
        due("11: in 59", laid("h0;h2;v0,1;l0,59,59;").alarm(), 59);
        LyingBeacons x = laid("h1;h2;v0,1;");
        x.ship(1, 58, 58);
        due("11: by a ship in 58", x.alarm(), 59);
        x.ship(1, 59, 59);
        due("11: by a ship in 59", x.alarm(), NONE);
        x.ship(1, 0, 0);
        due("11: by a ship in 0", x.alarm(), 1);
    }

    /** "(..; asleep in that minute: not)". */
    private static void anEarAsleepHearsNothing() {
        String net = "h0;h2;v0,1;l0,0,59;r1,1,9;";
        due("11: awake", laid(net).alarm(), 8);
        due("11: asleep ahead", laid(net + "s1,0,7;").alarm(), 8);
        due("11: asleep in 8", laid(net + "s1,8,8;").alarm(), 9);
        due("11: asleep up to 58", laid(net + "s1,0,58;").alarm(), 59);
        due("11: asleep all night", laid(net + "s1,0,59;").alarm(), NONE);
        due("11: asleep behind", laid(net + "s1,9,59;").alarm(), 8);
        due("11: asleep in the only minute", laid("h0;h2;v0,1;l0,59,59;s1,59,59;").alarm(), NONE);
        due("11: another one asleep", laid(net + "s0,0,59;").alarm(), 8);
    }

    /** "The EAR never burns": its WOOD counts for nothing. */
    private static void anEarNeedsNoWood() {
        LyingBeacons x = laid("h0;h2;v0,1;l0,3,3;w1,0;");
        due("11: without wood", x.alarm(), 3);
        due("10: without wood", x.wood(1), 0);
    }
}
